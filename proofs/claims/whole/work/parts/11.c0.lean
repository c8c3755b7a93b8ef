abbrev yX0_copyFrom : MethodName := ⟨"OysterBeds$Bed", "copyFrom", "(LOysterBeds$Bed;)V"⟩
theorem mwX0_copyFrom : MW yX0_copyFrom prog_2_method_2_code 3 none 1 := ⟨wd_391, wd_4, by decide +kernel⟩
theorem d_X0_copyFrom_0 : decode prog_2_method_2_code 0 = .ok (.iconst 0, 1) := by decide +kernel
theorem d_X0_copyFrom_1 : decode prog_2_method_2_code 1 = .ok (.istore_n 2, 1) := by decide +kernel
theorem d_X0_copyFrom_2 : decode prog_2_method_2_code 2 = .ok (.iload_n 2, 1) := by decide +kernel
theorem d_X0_copyFrom_3 : decode prog_2_method_2_code 3 = .ok (.bipush 8, 2) := by decide +kernel
theorem d_X0_copyFrom_5 : decode prog_2_method_2_code 5 = .ok (.if_icmp .ge 69, 3) := by decide +kernel
theorem d_X0_copyFrom_8 : decode prog_2_method_2_code 8 = .ok (.aload_n 0, 1) := by decide +kernel
theorem d_X0_copyFrom_9 : decode prog_2_method_2_code 9 = .ok (.getfield 9, 3) := by decide +kernel
theorem d_X0_copyFrom_12 : decode prog_2_method_2_code 12 = .ok (.iload_n 2, 1) := by decide +kernel
theorem d_X0_copyFrom_13 : decode prog_2_method_2_code 13 = .ok (.aload_n 1, 1) := by decide +kernel
theorem d_X0_copyFrom_14 : decode prog_2_method_2_code 14 = .ok (.getfield 9, 3) := by decide +kernel
theorem d_X0_copyFrom_17 : decode prog_2_method_2_code 17 = .ok (.iload_n 2, 1) := by decide +kernel
theorem d_X0_copyFrom_18 : decode prog_2_method_2_code 18 = .ok (.iaload, 1) := by decide +kernel
theorem d_X0_copyFrom_19 : decode prog_2_method_2_code 19 = .ok (.iastore, 1) := by decide +kernel
theorem d_X0_copyFrom_20 : decode prog_2_method_2_code 20 = .ok (.aload_n 0, 1) := by decide +kernel
theorem d_X0_copyFrom_21 : decode prog_2_method_2_code 21 = .ok (.getfield 15, 3) := by decide +kernel
theorem d_X0_copyFrom_24 : decode prog_2_method_2_code 24 = .ok (.iload_n 2, 1) := by decide +kernel
theorem d_X0_copyFrom_25 : decode prog_2_method_2_code 25 = .ok (.aload_n 1, 1) := by decide +kernel
theorem d_X0_copyFrom_26 : decode prog_2_method_2_code 26 = .ok (.getfield 15, 3) := by decide +kernel
theorem d_X0_copyFrom_29 : decode prog_2_method_2_code 29 = .ok (.iload_n 2, 1) := by decide +kernel
theorem d_X0_copyFrom_30 : decode prog_2_method_2_code 30 = .ok (.iaload, 1) := by decide +kernel
theorem d_X0_copyFrom_31 : decode prog_2_method_2_code 31 = .ok (.iastore, 1) := by decide +kernel
theorem d_X0_copyFrom_32 : decode prog_2_method_2_code 32 = .ok (.aload_n 0, 1) := by decide +kernel
theorem d_X0_copyFrom_33 : decode prog_2_method_2_code 33 = .ok (.getfield 18, 3) := by decide +kernel
theorem d_X0_copyFrom_36 : decode prog_2_method_2_code 36 = .ok (.iload_n 2, 1) := by decide +kernel
theorem d_X0_copyFrom_37 : decode prog_2_method_2_code 37 = .ok (.aload_n 1, 1) := by decide +kernel
theorem d_X0_copyFrom_38 : decode prog_2_method_2_code 38 = .ok (.getfield 18, 3) := by decide +kernel
theorem d_X0_copyFrom_41 : decode prog_2_method_2_code 41 = .ok (.iload_n 2, 1) := by decide +kernel
theorem d_X0_copyFrom_42 : decode prog_2_method_2_code 42 = .ok (.iaload, 1) := by decide +kernel
theorem d_X0_copyFrom_43 : decode prog_2_method_2_code 43 = .ok (.iastore, 1) := by decide +kernel
theorem d_X0_copyFrom_44 : decode prog_2_method_2_code 44 = .ok (.aload_n 0, 1) := by decide +kernel
theorem d_X0_copyFrom_45 : decode prog_2_method_2_code 45 = .ok (.getfield 21, 3) := by decide +kernel
theorem d_X0_copyFrom_48 : decode prog_2_method_2_code 48 = .ok (.iload_n 2, 1) := by decide +kernel
theorem d_X0_copyFrom_49 : decode prog_2_method_2_code 49 = .ok (.aload_n 1, 1) := by decide +kernel
theorem d_X0_copyFrom_50 : decode prog_2_method_2_code 50 = .ok (.getfield 21, 3) := by decide +kernel
theorem d_X0_copyFrom_53 : decode prog_2_method_2_code 53 = .ok (.iload_n 2, 1) := by decide +kernel
theorem d_X0_copyFrom_54 : decode prog_2_method_2_code 54 = .ok (.iaload, 1) := by decide +kernel
theorem d_X0_copyFrom_55 : decode prog_2_method_2_code 55 = .ok (.iastore, 1) := by decide +kernel
theorem d_X0_copyFrom_56 : decode prog_2_method_2_code 56 = .ok (.aload_n 0, 1) := by decide +kernel
theorem d_X0_copyFrom_57 : decode prog_2_method_2_code 57 = .ok (.getfield 24, 3) := by decide +kernel
theorem d_X0_copyFrom_60 : decode prog_2_method_2_code 60 = .ok (.iload_n 2, 1) := by decide +kernel
theorem d_X0_copyFrom_61 : decode prog_2_method_2_code 61 = .ok (.aload_n 1, 1) := by decide +kernel
theorem d_X0_copyFrom_62 : decode prog_2_method_2_code 62 = .ok (.getfield 24, 3) := by decide +kernel
theorem d_X0_copyFrom_65 : decode prog_2_method_2_code 65 = .ok (.iload_n 2, 1) := by decide +kernel
theorem d_X0_copyFrom_66 : decode prog_2_method_2_code 66 = .ok (.iaload, 1) := by decide +kernel
theorem d_X0_copyFrom_67 : decode prog_2_method_2_code 67 = .ok (.iastore, 1) := by decide +kernel
theorem d_X0_copyFrom_68 : decode prog_2_method_2_code 68 = .ok (.iinc 2 1, 3) := by decide +kernel
theorem d_X0_copyFrom_71 : decode prog_2_method_2_code 71 = .ok (.goto (-69), 3) := by decide +kernel
theorem d_X0_copyFrom_74 : decode prog_2_method_2_code 74 = .ok (.aload_n 0, 1) := by decide +kernel
theorem d_X0_copyFrom_75 : decode prog_2_method_2_code 75 = .ok (.aload_n 1, 1) := by decide +kernel
theorem d_X0_copyFrom_76 : decode prog_2_method_2_code 76 = .ok (.getfield 27, 3) := by decide +kernel
theorem d_X0_copyFrom_79 : decode prog_2_method_2_code 79 = .ok (.putfield 27, 3) := by decide +kernel
theorem d_X0_copyFrom_82 : decode prog_2_method_2_code 82 = .ok (.aload_n 0, 1) := by decide +kernel
theorem d_X0_copyFrom_83 : decode prog_2_method_2_code 83 = .ok (.aload_n 1, 1) := by decide +kernel
theorem d_X0_copyFrom_84 : decode prog_2_method_2_code 84 = .ok (.getfield 31, 3) := by decide +kernel
theorem d_X0_copyFrom_87 : decode prog_2_method_2_code 87 = .ok (.putfield 31, 3) := by decide +kernel
theorem d_X0_copyFrom_90 : decode prog_2_method_2_code 90 = .ok (.aload_n 0, 1) := by decide +kernel
theorem d_X0_copyFrom_91 : decode prog_2_method_2_code 91 = .ok (.aload_n 1, 1) := by decide +kernel
theorem d_X0_copyFrom_92 : decode prog_2_method_2_code 92 = .ok (.getfield 34, 3) := by decide +kernel
theorem d_X0_copyFrom_95 : decode prog_2_method_2_code 95 = .ok (.putfield 34, 3) := by decide +kernel
theorem d_X0_copyFrom_98 : decode prog_2_method_2_code 98 = .ok (.return_, 1) := by decide +kernel
def f_X0_copyFrom_s2 (b : Nat) (b1 : Nat) (τ : St) (x2 : Int32) : Option ((Int32 × St) ⊕ (St)) := (if (8 : Int32) ≤ x2 then some (.inr τ) else gd (inb x2 8) (gd (inb x2 8) (gd (inb x2 8) (gd (inb x2 8) (gd (inb x2 8) (gd (inb x2 8) (gd (inb x2 8) (gd (inb x2 8) (gd (inb x2 8) (gd (inb x2 8) (some (.inl ((x2 + (1 : Int32)), (sA (sA (sA (sA (sA τ (b + 1) x2.toNatClampNeg (cA τ (b1 + 1) x2.toNatClampNeg)) (b + 2) x2.toNatClampNeg (cA (sA τ (b + 1) x2.toNatClampNeg (cA τ (b1 + 1) x2.toNatClampNeg)) (b1 + 2) x2.toNatClampNeg)) (b + 3) x2.toNatClampNeg (cA (sA (sA τ (b + 1) x2.toNatClampNeg (cA τ (b1 + 1) x2.toNatClampNeg)) (b + 2) x2.toNatClampNeg (cA (sA τ (b + 1) x2.toNatClampNeg (cA τ (b1 + 1) x2.toNatClampNeg)) (b1 + 2) x2.toNatClampNeg)) (b1 + 3) x2.toNatClampNeg)) (b + 4) x2.toNatClampNeg (cA (sA (sA (sA τ (b + 1) x2.toNatClampNeg (cA τ (b1 + 1) x2.toNatClampNeg)) (b + 2) x2.toNatClampNeg (cA (sA τ (b + 1) x2.toNatClampNeg (cA τ (b1 + 1) x2.toNatClampNeg)) (b1 + 2) x2.toNatClampNeg)) (b + 3) x2.toNatClampNeg (cA (sA (sA τ (b + 1) x2.toNatClampNeg (cA τ (b1 + 1) x2.toNatClampNeg)) (b + 2) x2.toNatClampNeg (cA (sA τ (b + 1) x2.toNatClampNeg (cA τ (b1 + 1) x2.toNatClampNeg)) (b1 + 2) x2.toNatClampNeg)) (b1 + 3) x2.toNatClampNeg)) (b1 + 4) x2.toNatClampNeg)) (b + 5) x2.toNatClampNeg (cA (sA (sA (sA (sA τ (b + 1) x2.toNatClampNeg (cA τ (b1 + 1) x2.toNatClampNeg)) (b + 2) x2.toNatClampNeg (cA (sA τ (b + 1) x2.toNatClampNeg (cA τ (b1 + 1) x2.toNatClampNeg)) (b1 + 2) x2.toNatClampNeg)) (b + 3) x2.toNatClampNeg (cA (sA (sA τ (b + 1) x2.toNatClampNeg (cA τ (b1 + 1) x2.toNatClampNeg)) (b + 2) x2.toNatClampNeg (cA (sA τ (b + 1) x2.toNatClampNeg (cA τ (b1 + 1) x2.toNatClampNeg)) (b1 + 2) x2.toNatClampNeg)) (b1 + 3) x2.toNatClampNeg)) (b + 4) x2.toNatClampNeg (cA (sA (sA (sA τ (b + 1) x2.toNatClampNeg (cA τ (b1 + 1) x2.toNatClampNeg)) (b + 2) x2.toNatClampNeg (cA (sA τ (b + 1) x2.toNatClampNeg (cA τ (b1 + 1) x2.toNatClampNeg)) (b1 + 2) x2.toNatClampNeg)) (b + 3) x2.toNatClampNeg (cA (sA (sA τ (b + 1) x2.toNatClampNeg (cA τ (b1 + 1) x2.toNatClampNeg)) (b + 2) x2.toNatClampNeg (cA (sA τ (b + 1) x2.toNatClampNeg (cA τ (b1 + 1) x2.toNatClampNeg)) (b1 + 2) x2.toNatClampNeg)) (b1 + 3) x2.toNatClampNeg)) (b1 + 4) x2.toNatClampNeg)) (b1 + 5) x2.toNatClampNeg)))))))))))))))
def f_X0_copyFrom (χ : St) (b : Nat) (b1 : Nat) : Option (St) := (iter (fun z => f_X0_copyFrom_s2 b b1 z.2 z.1) FU ((0 : Int32), χ)).bind (fun z11 => some (sF (sF (sF z11 b 5 (cF z11 b1 5)) b 6 (cF (sF z11 b 5 (cF z11 b1 5)) b1 6)) b 7 (cF (sF (sF z11 b 5 (cF z11 b1 5)) b 6 (cF (sF z11 b 5 (cF z11 b1 5)) b1 6)) b1 7)))
theorem c_X0_copyFrom {l : Launch} {G : gT} {χ σ : St} {b : Nat} {b1 : Nat} (hf : FW G) (hb_b : isBed b = true) (hb_b1 : isBed b1 = true) {q : St} (h : f_X0_copyFrom χ b b1 = some q) : Ct l G yX0_copyFrom prog_2_method_2_code 3 none 0 0 [.ref (ga G b), .ref (ga G b1)] χ σ (none) q σ := by
  obtain ⟨ob0_b, ob1_b, ob2_b, ob3_b, ob4_b, ob5_b, lb_b, -, -⟩ := bed_at hf hb_b
  have lb0_b : b < 300 := by omega
  have lb1_b : b + 1 < 300 := by omega
  have lb2_b : b + 2 < 300 := by omega
  have lb3_b : b + 3 < 300 := by omega
  have lb4_b : b + 4 < 300 := by omega
  have lb5_b : b + 5 < 300 := by omega
  obtain ⟨ob0_b1, ob1_b1, ob2_b1, ob3_b1, ob4_b1, ob5_b1, lb_b1, -, -⟩ := bed_at hf hb_b1
  have lb0_b1 : b1 < 300 := by omega
  have lb1_b1 : b1 + 1 < 300 := by omega
  have lb2_b1 : b1 + 2 < 300 := by omega
  have lb3_b1 : b1 + 3 < 300 := by omega
  have lb4_b1 : b1 + 4 < 300 := by omega
  have lb5_b1 : b1 + 5 < 300 := by omega
  refine Ct.of (by decide) (Nat.le_of_ble_eq_true rfl) ?_
  intro p e s m args below meth c Q X hr hlk hQ
  have hx := X.1
  have hb := X.2.1
  have b2 : ∀ (τ : St) (x2 : Int32) (o : (Int32 × St) ⊕ (St)), f_X0_copyFrom_s2 b b1 τ x2 = some o → Sum.elim (fun z : Int32 × St => Wat p l e (rmk 0 0) s m args below meth c Q G 3 2 [] [(2, .int z.1), (0, .ref (ga G b)), (1, .ref (ga G b1))] z.2 σ) (fun z : St => Wat p l e (rmk 0 0) s m args below meth c Q G 3 74 [] [(0, .ref (ga G b)), (1, .ref (ga G b1))] z σ) o → Wat p l e (rmk 0 0) s m args below meth c Q G 3 2 [] [(2, .int x2), (0, .ref (ga G b)), (1, .ref (ga G b1))] τ σ := by
    intro τ x2 o h hk H locs ls hw hl
    unfold f_X0_copyFrom_s2 at h
    refine lv_iload_n hx hb d_X0_copyFrom_2 rfl (lv_at hl 0 rfl) ?_
    refine lv_bipush (v := (8 : Int32)) hx hb d_X0_copyFrom_3 (by decide) ?_
    refine lv_icmp_ge (tgt := 74) hx hb d_X0_copyFrom_5 (by decide) (fun hc => ?_) (fun hc => ?_)
    · have h := ite_t h hc
      obtain rfl := Option.some.inj h
      dsimp only [Sum.elim_inr] at hk
      exact hk _ _ _ hw (lv_sub hl [1, 2] rfl)
    · have h := ite_f h hc
      refine lv_aload_n hx hb d_X0_copyFrom_8 rfl (lv_at hl 1 rfl) ?_
      refine r_getr (j := 0) X hw ct0 ob0_b rfl (Nat.le_of_ble_eq_true rfl) (q := (b + 1)) (rt_bed hb_b) wd_70 d_X0_copyFrom_9 ?_
      refine lv_iload_n hx hb d_X0_copyFrom_12 rfl (lv_at hl 0 rfl) ?_
      refine lv_aload_n hx hb d_X0_copyFrom_13 rfl (lv_at hl 2 rfl) ?_
      refine r_getr (j := 0) X hw ct0 ob0_b1 rfl (Nat.le_of_ble_eq_true rfl) (q := (b1 + 1)) (rt_bed hb_b1) wd_70 d_X0_copyFrom_14 ?_
      refine lv_iload_n hx hb d_X0_copyFrom_17 rfl (lv_at hl 0 rfl) ?_
      obtain ⟨hi1, h⟩ := gd_some h
      refine r_iald X hw ob1_b1 lb1_b1 hi1 d_X0_copyFrom_18 ?_
      obtain ⟨hi2, h⟩ := gd_some h
      refine r_iast X hw ob1_b lb1_b hi2 d_X0_copyFrom_19 (fun H locs hw => ?_)
      refine lv_aload_n hx hb d_X0_copyFrom_20 rfl (lv_at hl 1 rfl) ?_
      refine r_getr (j := 1) X hw ct0 ob0_b rfl (Nat.le_of_ble_eq_true rfl) (q := (b + 2)) (rt_bed hb_b) wd_74 d_X0_copyFrom_21 ?_
      refine lv_iload_n hx hb d_X0_copyFrom_24 rfl (lv_at hl 0 rfl) ?_
      refine lv_aload_n hx hb d_X0_copyFrom_25 rfl (lv_at hl 2 rfl) ?_
      refine r_getr (j := 1) X hw ct0 ob0_b1 rfl (Nat.le_of_ble_eq_true rfl) (q := (b1 + 2)) (rt_bed hb_b1) wd_74 d_X0_copyFrom_26 ?_
      refine lv_iload_n hx hb d_X0_copyFrom_29 rfl (lv_at hl 0 rfl) ?_
      obtain ⟨hi3, h⟩ := gd_some h
      refine r_iald X hw ob2_b1 lb2_b1 hi3 d_X0_copyFrom_30 ?_
      obtain ⟨hi4, h⟩ := gd_some h
      refine r_iast X hw ob2_b lb2_b hi4 d_X0_copyFrom_31 (fun H locs hw => ?_)
      refine lv_aload_n hx hb d_X0_copyFrom_32 rfl (lv_at hl 1 rfl) ?_
      refine r_getr (j := 2) X hw ct0 ob0_b rfl (Nat.le_of_ble_eq_true rfl) (q := (b + 3)) (rt_bed hb_b) wd_79 d_X0_copyFrom_33 ?_
      refine lv_iload_n hx hb d_X0_copyFrom_36 rfl (lv_at hl 0 rfl) ?_
      refine lv_aload_n hx hb d_X0_copyFrom_37 rfl (lv_at hl 2 rfl) ?_
      refine r_getr (j := 2) X hw ct0 ob0_b1 rfl (Nat.le_of_ble_eq_true rfl) (q := (b1 + 3)) (rt_bed hb_b1) wd_79 d_X0_copyFrom_38 ?_
      refine lv_iload_n hx hb d_X0_copyFrom_41 rfl (lv_at hl 0 rfl) ?_
      obtain ⟨hi5, h⟩ := gd_some h
      refine r_iald X hw ob3_b1 lb3_b1 hi5 d_X0_copyFrom_42 ?_
      obtain ⟨hi6, h⟩ := gd_some h
      refine r_iast X hw ob3_b lb3_b hi6 d_X0_copyFrom_43 (fun H locs hw => ?_)
      refine lv_aload_n hx hb d_X0_copyFrom_44 rfl (lv_at hl 1 rfl) ?_
      refine r_getr (j := 3) X hw ct0 ob0_b rfl (Nat.le_of_ble_eq_true rfl) (q := (b + 4)) (rt_bed hb_b) wd_83 d_X0_copyFrom_45 ?_
      refine lv_iload_n hx hb d_X0_copyFrom_48 rfl (lv_at hl 0 rfl) ?_
      refine lv_aload_n hx hb d_X0_copyFrom_49 rfl (lv_at hl 2 rfl) ?_
      refine r_getr (j := 3) X hw ct0 ob0_b1 rfl (Nat.le_of_ble_eq_true rfl) (q := (b1 + 4)) (rt_bed hb_b1) wd_83 d_X0_copyFrom_50 ?_
      refine lv_iload_n hx hb d_X0_copyFrom_53 rfl (lv_at hl 0 rfl) ?_
      obtain ⟨hi7, h⟩ := gd_some h
      refine r_iald X hw ob4_b1 lb4_b1 hi7 d_X0_copyFrom_54 ?_
      obtain ⟨hi8, h⟩ := gd_some h
      refine r_iast X hw ob4_b lb4_b hi8 d_X0_copyFrom_55 (fun H locs hw => ?_)
      refine lv_aload_n hx hb d_X0_copyFrom_56 rfl (lv_at hl 1 rfl) ?_
      refine r_getr (j := 4) X hw ct0 ob0_b rfl (Nat.le_of_ble_eq_true rfl) (q := (b + 5)) (rt_bed hb_b) wd_86 d_X0_copyFrom_57 ?_
      refine lv_iload_n hx hb d_X0_copyFrom_60 rfl (lv_at hl 0 rfl) ?_
      refine lv_aload_n hx hb d_X0_copyFrom_61 rfl (lv_at hl 2 rfl) ?_
      refine r_getr (j := 4) X hw ct0 ob0_b1 rfl (Nat.le_of_ble_eq_true rfl) (q := (b1 + 5)) (rt_bed hb_b1) wd_86 d_X0_copyFrom_62 ?_
      refine lv_iload_n hx hb d_X0_copyFrom_65 rfl (lv_at hl 0 rfl) ?_
      obtain ⟨hi9, h⟩ := gd_some h
      refine r_iald X hw ob5_b1 lb5_b1 hi9 d_X0_copyFrom_66 ?_
      obtain ⟨hi10, h⟩ := gd_some h
      refine r_iast X hw ob5_b lb5_b hi10 d_X0_copyFrom_67 (fun H locs hw => ?_)
      refine lv_iinc (v := (x2 + (1 : Int32))) (k := 0) (lv' := [(2, .int (x2 + (1 : Int32))), (0, .ref (ga G b)), (1, .ref (ga G b1))]) hx hb d_X0_copyFrom_68 hl rfl (by rfl) (Nat.le_of_ble_eq_true rfl) rfl (fun ls hl => ?_)
      refine lv_goto (tgt := 2) hx hb d_X0_copyFrom_71 (by decide) ?_
      obtain rfl := Option.some.inj h
      dsimp only [Sum.elim_inl] at hk
      exact hk _ _ _ hw (lv_sub hl [0, 1, 2] rfl)
  intro H locs ls hw hl
  have hl : lv_has ls 3 [(0, .ref (ga G b)), (1, .ref (ga G b1))] := hl
  unfold f_X0_copyFrom at h
  refine lv_iconst (v := (0 : Int32)) hx hb d_X0_copyFrom_0 (by decide) ?_
  refine lv_istore_n (lv' := [(2, .int (0 : Int32)), (0, .ref (ga G b)), (1, .ref (ga G b1))]) hx hb d_X0_copyFrom_1 rfl hl (Nat.le_of_ble_eq_true rfl) rfl (fun ls hl => ?_)
  obtain ⟨z11, e12, h⟩ := bd_some h
  refine iter_w (Wh := fun z : Int32 × St => Wat p l e (rmk 0 0) s m args below meth c Q G 3 2 [] [(2, .int z.1), (0, .ref (ga G b)), (1, .ref (ga G b1))] z.2 σ) (K := fun z : St => Wat p l e (rmk 0 0) s m args below meth c Q G 3 74 [] [(0, .ref (ga G b)), (1, .ref (ga G b1))] z σ) (fun z o h1 h2 => b2 z.2 z.1 o h1 h2) FU _ _ e12 ?_ _ _ _ hw (lv_sub hl [0, 1, 2] rfl)
  intro H locs ls hw hl
  refine lv_aload_n hx hb d_X0_copyFrom_74 rfl (lv_at hl 0 rfl) ?_
  refine lv_aload_n hx hb d_X0_copyFrom_75 rfl (lv_at hl 1 rfl) ?_
  refine r_geti (j := 5) X hw ct0 ob0_b1 lb0_b1 rfl (Nat.le_of_ble_eq_true rfl) wd_91 d_X0_copyFrom_76 ?_
  refine r_puti (j := 5) X hw ct0 ob0_b lb0_b rfl (Nat.le_of_ble_eq_true rfl) rfl rfl rfl wd_91 d_X0_copyFrom_79 (fun H locs hw => ?_)
  refine lv_aload_n hx hb d_X0_copyFrom_82 rfl (lv_at hl 0 rfl) ?_
  refine lv_aload_n hx hb d_X0_copyFrom_83 rfl (lv_at hl 1 rfl) ?_
  refine r_geti (j := 6) X hw ct0 ob0_b1 lb0_b1 rfl (Nat.le_of_ble_eq_true rfl) wd_96 d_X0_copyFrom_84 ?_
  refine r_puti (j := 6) X hw ct0 ob0_b lb0_b rfl (Nat.le_of_ble_eq_true rfl) rfl rfl rfl wd_96 d_X0_copyFrom_87 (fun H locs hw => ?_)
  refine lv_aload_n hx hb d_X0_copyFrom_90 rfl (lv_at hl 0 rfl) ?_
  refine lv_aload_n hx hb d_X0_copyFrom_91 rfl (lv_at hl 1 rfl) ?_
  refine r_geti (j := 7) X hw ct0 ob0_b1 lb0_b1 rfl (Nat.le_of_ble_eq_true rfl) wd_99 d_X0_copyFrom_92 ?_
  refine r_puti (j := 7) X hw ct0 ob0_b lb0_b rfl (Nat.le_of_ble_eq_true rfl) rfl rfl rfl wd_99 d_X0_copyFrom_95 (fun H locs hw => ?_)
  obtain rfl := Option.some.inj h
  subst hQ
  exact r_vret X hr hlk hw d_X0_copyFrom_98
abbrev yX0_admit : MethodName := ⟨"OysterBeds$Bed", nmAd, "(III)V"⟩
theorem mwX0_admit : MW yX0_admit prog_2_method_3_code 4 none 3 := ⟨wd_344, wd_4, by decide +kernel⟩
theorem d_X0_admit_0 : decode prog_2_method_3_code 0 = .ok (.aload_n 0, 1) := by decide +kernel
theorem d_X0_admit_1 : decode prog_2_method_3_code 1 = .ok (.getfield 27, 3) := by decide +kernel
theorem d_X0_admit_4 : decode prog_2_method_3_code 4 = .ok (.bipush 8, 2) := by decide +kernel
theorem d_X0_admit_6 : decode prog_2_method_3_code 6 = .ok (.if_icmp .ge 63, 3) := by decide +kernel
theorem d_X0_admit_9 : decode prog_2_method_3_code 9 = .ok (.aload_n 0, 1) := by decide +kernel
theorem d_X0_admit_10 : decode prog_2_method_3_code 10 = .ok (.getfield 9, 3) := by decide +kernel
theorem d_X0_admit_13 : decode prog_2_method_3_code 13 = .ok (.aload_n 0, 1) := by decide +kernel
theorem d_X0_admit_14 : decode prog_2_method_3_code 14 = .ok (.getfield 27, 3) := by decide +kernel
theorem d_X0_admit_17 : decode prog_2_method_3_code 17 = .ok (.iload_n 1, 1) := by decide +kernel
theorem d_X0_admit_18 : decode prog_2_method_3_code 18 = .ok (.iastore, 1) := by decide +kernel
theorem d_X0_admit_19 : decode prog_2_method_3_code 19 = .ok (.aload_n 0, 1) := by decide +kernel
theorem d_X0_admit_20 : decode prog_2_method_3_code 20 = .ok (.getfield 15, 3) := by decide +kernel
theorem d_X0_admit_23 : decode prog_2_method_3_code 23 = .ok (.aload_n 0, 1) := by decide +kernel
theorem d_X0_admit_24 : decode prog_2_method_3_code 24 = .ok (.getfield 27, 3) := by decide +kernel
theorem d_X0_admit_27 : decode prog_2_method_3_code 27 = .ok (.iload_n 2, 1) := by decide +kernel
theorem d_X0_admit_28 : decode prog_2_method_3_code 28 = .ok (.iastore, 1) := by decide +kernel
theorem d_X0_admit_29 : decode prog_2_method_3_code 29 = .ok (.aload_n 0, 1) := by decide +kernel
theorem d_X0_admit_30 : decode prog_2_method_3_code 30 = .ok (.getfield 18, 3) := by decide +kernel
theorem d_X0_admit_33 : decode prog_2_method_3_code 33 = .ok (.aload_n 0, 1) := by decide +kernel
theorem d_X0_admit_34 : decode prog_2_method_3_code 34 = .ok (.getfield 27, 3) := by decide +kernel
theorem d_X0_admit_37 : decode prog_2_method_3_code 37 = .ok (.iload_n 3, 1) := by decide +kernel
theorem d_X0_admit_38 : decode prog_2_method_3_code 38 = .ok (.iastore, 1) := by decide +kernel
theorem d_X0_admit_39 : decode prog_2_method_3_code 39 = .ok (.aload_n 0, 1) := by decide +kernel
theorem d_X0_admit_40 : decode prog_2_method_3_code 40 = .ok (.getfield 21, 3) := by decide +kernel
theorem d_X0_admit_43 : decode prog_2_method_3_code 43 = .ok (.aload_n 0, 1) := by decide +kernel
theorem d_X0_admit_44 : decode prog_2_method_3_code 44 = .ok (.getfield 27, 3) := by decide +kernel
theorem d_X0_admit_47 : decode prog_2_method_3_code 47 = .ok (.iconst 0, 1) := by decide +kernel
theorem d_X0_admit_48 : decode prog_2_method_3_code 48 = .ok (.iastore, 1) := by decide +kernel
theorem d_X0_admit_49 : decode prog_2_method_3_code 49 = .ok (.aload_n 0, 1) := by decide +kernel
theorem d_X0_admit_50 : decode prog_2_method_3_code 50 = .ok (.getfield 24, 3) := by decide +kernel
theorem d_X0_admit_53 : decode prog_2_method_3_code 53 = .ok (.aload_n 0, 1) := by decide +kernel
theorem d_X0_admit_54 : decode prog_2_method_3_code 54 = .ok (.getfield 27, 3) := by decide +kernel
theorem d_X0_admit_57 : decode prog_2_method_3_code 57 = .ok (.iconst 0, 1) := by decide +kernel
theorem d_X0_admit_58 : decode prog_2_method_3_code 58 = .ok (.iastore, 1) := by decide +kernel
theorem d_X0_admit_59 : decode prog_2_method_3_code 59 = .ok (.aload_n 0, 1) := by decide +kernel
theorem d_X0_admit_60 : decode prog_2_method_3_code 60 = .ok (.dup, 1) := by decide +kernel
theorem d_X0_admit_61 : decode prog_2_method_3_code 61 = .ok (.getfield 27, 3) := by decide +kernel
theorem d_X0_admit_64 : decode prog_2_method_3_code 64 = .ok (.iconst 1, 1) := by decide +kernel
theorem d_X0_admit_65 : decode prog_2_method_3_code 65 = .ok (.iadd, 1) := by decide +kernel
theorem d_X0_admit_66 : decode prog_2_method_3_code 66 = .ok (.putfield 27, 3) := by decide +kernel
theorem d_X0_admit_69 : decode prog_2_method_3_code 69 = .ok (.return_, 1) := by decide +kernel
def f_X0_admit (χ : St) (b : Nat) (a1 : Int32) (a2 : Int32) (a3 : Int32) : Option (St) := (if (8 : Int32) ≤ (cF χ b 5) then some χ else gd (inb (cF χ b 5) 8) (gd (inb (cF (sA χ (b + 1) (cF χ b 5).toNatClampNeg a1) b 5) 8) (gd (inb (cF (sA (sA χ (b + 1) (cF χ b 5).toNatClampNeg a1) (b + 2) (cF (sA χ (b + 1) (cF χ b 5).toNatClampNeg a1) b 5).toNatClampNeg a2) b 5) 8) (gd (inb (cF (sA (sA (sA χ (b + 1) (cF χ b 5).toNatClampNeg a1) (b + 2) (cF (sA χ (b + 1) (cF χ b 5).toNatClampNeg a1) b 5).toNatClampNeg a2) (b + 3) (cF (sA (sA χ (b + 1) (cF χ b 5).toNatClampNeg a1) (b + 2) (cF (sA χ (b + 1) (cF χ b 5).toNatClampNeg a1) b 5).toNatClampNeg a2) b 5).toNatClampNeg a3) b 5) 8) (gd (inb (cF (sA (sA (sA (sA χ (b + 1) (cF χ b 5).toNatClampNeg a1) (b + 2) (cF (sA χ (b + 1) (cF χ b 5).toNatClampNeg a1) b 5).toNatClampNeg a2) (b + 3) (cF (sA (sA χ (b + 1) (cF χ b 5).toNatClampNeg a1) (b + 2) (cF (sA χ (b + 1) (cF χ b 5).toNatClampNeg a1) b 5).toNatClampNeg a2) b 5).toNatClampNeg a3) (b + 4) (cF (sA (sA (sA χ (b + 1) (cF χ b 5).toNatClampNeg a1) (b + 2) (cF (sA χ (b + 1) (cF χ b 5).toNatClampNeg a1) b 5).toNatClampNeg a2) (b + 3) (cF (sA (sA χ (b + 1) (cF χ b 5).toNatClampNeg a1) (b + 2) (cF (sA χ (b + 1) (cF χ b 5).toNatClampNeg a1) b 5).toNatClampNeg a2) b 5).toNatClampNeg a3) b 5).toNatClampNeg (0 : Int32)) b 5) 8) (some (sF (sA (sA (sA (sA (sA χ (b + 1) (cF χ b 5).toNatClampNeg a1) (b + 2) (cF (sA χ (b + 1) (cF χ b 5).toNatClampNeg a1) b 5).toNatClampNeg a2) (b + 3) (cF (sA (sA χ (b + 1) (cF χ b 5).toNatClampNeg a1) (b + 2) (cF (sA χ (b + 1) (cF χ b 5).toNatClampNeg a1) b 5).toNatClampNeg a2) b 5).toNatClampNeg a3) (b + 4) (cF (sA (sA (sA χ (b + 1) (cF χ b 5).toNatClampNeg a1) (b + 2) (cF (sA χ (b + 1) (cF χ b 5).toNatClampNeg a1) b 5).toNatClampNeg a2) (b + 3) (cF (sA (sA χ (b + 1) (cF χ b 5).toNatClampNeg a1) (b + 2) (cF (sA χ (b + 1) (cF χ b 5).toNatClampNeg a1) b 5).toNatClampNeg a2) b 5).toNatClampNeg a3) b 5).toNatClampNeg (0 : Int32)) (b + 5) (cF (sA (sA (sA (sA χ (b + 1) (cF χ b 5).toNatClampNeg a1) (b + 2) (cF (sA χ (b + 1) (cF χ b 5).toNatClampNeg a1) b 5).toNatClampNeg a2) (b + 3) (cF (sA (sA χ (b + 1) (cF χ b 5).toNatClampNeg a1) (b + 2) (cF (sA χ (b + 1) (cF χ b 5).toNatClampNeg a1) b 5).toNatClampNeg a2) b 5).toNatClampNeg a3) (b + 4) (cF (sA (sA (sA χ (b + 1) (cF χ b 5).toNatClampNeg a1) (b + 2) (cF (sA χ (b + 1) (cF χ b 5).toNatClampNeg a1) b 5).toNatClampNeg a2) (b + 3) (cF (sA (sA χ (b + 1) (cF χ b 5).toNatClampNeg a1) (b + 2) (cF (sA χ (b + 1) (cF χ b 5).toNatClampNeg a1) b 5).toNatClampNeg a2) b 5).toNatClampNeg a3) b 5).toNatClampNeg (0 : Int32)) b 5).toNatClampNeg (0 : Int32)) b 5 ((cF (sA (sA (sA (sA (sA χ (b + 1) (cF χ b 5).toNatClampNeg a1) (b + 2) (cF (sA χ (b + 1) (cF χ b 5).toNatClampNeg a1) b 5).toNatClampNeg a2) (b + 3) (cF (sA (sA χ (b + 1) (cF χ b 5).toNatClampNeg a1) (b + 2) (cF (sA χ (b + 1) (cF χ b 5).toNatClampNeg a1) b 5).toNatClampNeg a2) b 5).toNatClampNeg a3) (b + 4) (cF (sA (sA (sA χ (b + 1) (cF χ b 5).toNatClampNeg a1) (b + 2) (cF (sA χ (b + 1) (cF χ b 5).toNatClampNeg a1) b 5).toNatClampNeg a2) (b + 3) (cF (sA (sA χ (b + 1) (cF χ b 5).toNatClampNeg a1) (b + 2) (cF (sA χ (b + 1) (cF χ b 5).toNatClampNeg a1) b 5).toNatClampNeg a2) b 5).toNatClampNeg a3) b 5).toNatClampNeg (0 : Int32)) (b + 5) (cF (sA (sA (sA (sA χ (b + 1) (cF χ b 5).toNatClampNeg a1) (b + 2) (cF (sA χ (b + 1) (cF χ b 5).toNatClampNeg a1) b 5).toNatClampNeg a2) (b + 3) (cF (sA (sA χ (b + 1) (cF χ b 5).toNatClampNeg a1) (b + 2) (cF (sA χ (b + 1) (cF χ b 5).toNatClampNeg a1) b 5).toNatClampNeg a2) b 5).toNatClampNeg a3) (b + 4) (cF (sA (sA (sA χ (b + 1) (cF χ b 5).toNatClampNeg a1) (b + 2) (cF (sA χ (b + 1) (cF χ b 5).toNatClampNeg a1) b 5).toNatClampNeg a2) (b + 3) (cF (sA (sA χ (b + 1) (cF χ b 5).toNatClampNeg a1) (b + 2) (cF (sA χ (b + 1) (cF χ b 5).toNatClampNeg a1) b 5).toNatClampNeg a2) b 5).toNatClampNeg a3) b 5).toNatClampNeg (0 : Int32)) b 5).toNatClampNeg (0 : Int32)) b 5) + (1 : Int32)))))))))
theorem c_X0_admit {l : Launch} {G : gT} {χ σ : St} {b : Nat} {a1 : Int32} {a2 : Int32} {a3 : Int32} (hf : FW G) (hb_b : isBed b = true) {q : St} (h : f_X0_admit χ b a1 a2 a3 = some q) : Ct l G yX0_admit prog_2_method_3_code 4 none 0 0 [.ref (ga G b), .int a1, .int a2, .int a3] χ σ (none) q σ := by
  obtain ⟨ob0_b, ob1_b, ob2_b, ob3_b, ob4_b, ob5_b, lb_b, -, -⟩ := bed_at hf hb_b
  have lb0_b : b < 300 := by omega
  have lb1_b : b + 1 < 300 := by omega
  have lb2_b : b + 2 < 300 := by omega
  have lb3_b : b + 3 < 300 := by omega
  have lb4_b : b + 4 < 300 := by omega
  have lb5_b : b + 5 < 300 := by omega
  refine Ct.of (by decide) (Nat.le_of_ble_eq_true rfl) ?_
  intro p e s m args below meth c Q X hr hlk hQ
  have hx := X.1
  have hb := X.2.1
  intro H locs ls hw hl
  have hl : lv_has ls 4 [(0, .ref (ga G b)), (1, .int a1), (2, .int a2), (3, .int a3)] := hl
  unfold f_X0_admit at h
  refine lv_aload_n hx hb d_X0_admit_0 rfl (lv_at hl 0 rfl) ?_
  refine r_geti (j := 5) X hw ct0 ob0_b lb0_b rfl (Nat.le_of_ble_eq_true rfl) wd_91 d_X0_admit_1 ?_
  refine lv_bipush (v := (8 : Int32)) hx hb d_X0_admit_4 (by decide) ?_
  refine lv_icmp_ge (tgt := 69) hx hb d_X0_admit_6 (by decide) (fun hc => ?_) (fun hc => ?_)
  · have h := ite_t h hc
    obtain rfl := Option.some.inj h
    subst hQ
    exact r_vret X hr hlk hw d_X0_admit_69
  · have h := ite_f h hc
    refine lv_aload_n hx hb d_X0_admit_9 rfl (lv_at hl 0 rfl) ?_
    refine r_getr (j := 0) X hw ct0 ob0_b rfl (Nat.le_of_ble_eq_true rfl) (q := (b + 1)) (rt_bed hb_b) wd_70 d_X0_admit_10 ?_
    refine lv_aload_n hx hb d_X0_admit_13 rfl (lv_at hl 0 rfl) ?_
    refine r_geti (j := 5) X hw ct0 ob0_b lb0_b rfl (Nat.le_of_ble_eq_true rfl) wd_91 d_X0_admit_14 ?_
    refine lv_iload_n hx hb d_X0_admit_17 rfl (lv_at hl 1 rfl) ?_
    obtain ⟨hi1, h⟩ := gd_some h
    refine r_iast X hw ob1_b lb1_b hi1 d_X0_admit_18 (fun H locs hw => ?_)
    refine lv_aload_n hx hb d_X0_admit_19 rfl (lv_at hl 0 rfl) ?_
    refine r_getr (j := 1) X hw ct0 ob0_b rfl (Nat.le_of_ble_eq_true rfl) (q := (b + 2)) (rt_bed hb_b) wd_74 d_X0_admit_20 ?_
    refine lv_aload_n hx hb d_X0_admit_23 rfl (lv_at hl 0 rfl) ?_
    refine r_geti (j := 5) X hw ct0 ob0_b lb0_b rfl (Nat.le_of_ble_eq_true rfl) wd_91 d_X0_admit_24 ?_
    refine lv_iload_n hx hb d_X0_admit_27 rfl (lv_at hl 2 rfl) ?_
    obtain ⟨hi2, h⟩ := gd_some h
    refine r_iast X hw ob2_b lb2_b hi2 d_X0_admit_28 (fun H locs hw => ?_)
    refine lv_aload_n hx hb d_X0_admit_29 rfl (lv_at hl 0 rfl) ?_
    refine r_getr (j := 2) X hw ct0 ob0_b rfl (Nat.le_of_ble_eq_true rfl) (q := (b + 3)) (rt_bed hb_b) wd_79 d_X0_admit_30 ?_
    refine lv_aload_n hx hb d_X0_admit_33 rfl (lv_at hl 0 rfl) ?_
    refine r_geti (j := 5) X hw ct0 ob0_b lb0_b rfl (Nat.le_of_ble_eq_true rfl) wd_91 d_X0_admit_34 ?_
    refine lv_iload_n hx hb d_X0_admit_37 rfl (lv_at hl 3 rfl) ?_
    obtain ⟨hi3, h⟩ := gd_some h
    refine r_iast X hw ob3_b lb3_b hi3 d_X0_admit_38 (fun H locs hw => ?_)
    refine lv_aload_n hx hb d_X0_admit_39 rfl (lv_at hl 0 rfl) ?_
    refine r_getr (j := 3) X hw ct0 ob0_b rfl (Nat.le_of_ble_eq_true rfl) (q := (b + 4)) (rt_bed hb_b) wd_83 d_X0_admit_40 ?_
    refine lv_aload_n hx hb d_X0_admit_43 rfl (lv_at hl 0 rfl) ?_
    refine r_geti (j := 5) X hw ct0 ob0_b lb0_b rfl (Nat.le_of_ble_eq_true rfl) wd_91 d_X0_admit_44 ?_
    refine lv_iconst (v := (0 : Int32)) hx hb d_X0_admit_47 (by decide) ?_
    obtain ⟨hi4, h⟩ := gd_some h
    refine r_iast X hw ob4_b lb4_b hi4 d_X0_admit_48 (fun H locs hw => ?_)
    refine lv_aload_n hx hb d_X0_admit_49 rfl (lv_at hl 0 rfl) ?_
    refine r_getr (j := 4) X hw ct0 ob0_b rfl (Nat.le_of_ble_eq_true rfl) (q := (b + 5)) (rt_bed hb_b) wd_86 d_X0_admit_50 ?_
    refine lv_aload_n hx hb d_X0_admit_53 rfl (lv_at hl 0 rfl) ?_
    refine r_geti (j := 5) X hw ct0 ob0_b lb0_b rfl (Nat.le_of_ble_eq_true rfl) wd_91 d_X0_admit_54 ?_
    refine lv_iconst (v := (0 : Int32)) hx hb d_X0_admit_57 (by decide) ?_
    obtain ⟨hi5, h⟩ := gd_some h
    refine r_iast X hw ob5_b lb5_b hi5 d_X0_admit_58 (fun H locs hw => ?_)
    refine lv_aload_n hx hb d_X0_admit_59 rfl (lv_at hl 0 rfl) ?_
    refine lv_dup hx hb d_X0_admit_60 rfl ?_
    refine r_geti (j := 5) X hw ct0 ob0_b lb0_b rfl (Nat.le_of_ble_eq_true rfl) wd_91 d_X0_admit_61 ?_
    refine lv_iconst (v := (1 : Int32)) hx hb d_X0_admit_64 (by decide) ?_
    refine lv_iadd hx hb d_X0_admit_65 ?_
    refine r_puti (j := 5) X hw ct0 ob0_b lb0_b rfl (Nat.le_of_ble_eq_true rfl) rfl rfl rfl wd_91 d_X0_admit_66 (fun H locs hw => ?_)
    obtain rfl := Option.some.inj h
    subst hQ
    exact r_vret X hr hlk hw d_X0_admit_69
abbrev yX0_has : MethodName := ⟨"OysterBeds$Bed", "has", "(I)Z"⟩
theorem mwX0_has : MW yX0_has prog_2_method_4_code 2 (some .boolean) 1 := ⟨wd_411, wd_4, by decide +kernel⟩
theorem d_X0_has_0 : decode prog_2_method_4_code 0 = .ok (.iload_n 1, 1) := by decide +kernel
theorem d_X0_has_1 : decode prog_2_method_4_code 1 = .ok (.ifCond .lt 15, 3) := by decide +kernel
theorem d_X0_has_4 : decode prog_2_method_4_code 4 = .ok (.iload_n 1, 1) := by decide +kernel
theorem d_X0_has_5 : decode prog_2_method_4_code 5 = .ok (.aload_n 0, 1) := by decide +kernel
theorem d_X0_has_6 : decode prog_2_method_4_code 6 = .ok (.getfield 27, 3) := by decide +kernel
theorem d_X0_has_9 : decode prog_2_method_4_code 9 = .ok (.if_icmp .ge 7, 3) := by decide +kernel
theorem d_X0_has_12 : decode prog_2_method_4_code 12 = .ok (.iconst 1, 1) := by decide +kernel
theorem d_X0_has_13 : decode prog_2_method_4_code 13 = .ok (.goto 4, 3) := by decide +kernel
theorem d_X0_has_16 : decode prog_2_method_4_code 16 = .ok (.iconst 0, 1) := by decide +kernel
theorem d_X0_has_17 : decode prog_2_method_4_code 17 = .ok (.ireturn, 1) := by decide +kernel
def f_X0_has (χ : St) (b : Nat) (a1 : Int32) : Option (Int32) := some (if a1 < 0 then (0 : Int32) else (if (cF χ b 5) ≤ a1 then (0 : Int32) else (1 : Int32)))
theorem c_X0_has {l : Launch} {G : gT} {χ σ : St} {b : Nat} {a1 : Int32} (hf : FW G) (hb_b : isBed b = true) {q : Int32} (h : f_X0_has χ b a1 = some q) : Ct l G yX0_has prog_2_method_4_code 2 (some .boolean) 0 0 [.ref (ga G b), .int a1] χ σ (some (.int q)) χ σ := by
  obtain ⟨ob0_b, ob1_b, ob2_b, ob3_b, ob4_b, ob5_b, lb_b, -, -⟩ := bed_at hf hb_b
  have lb0_b : b < 300 := by omega
  have lb1_b : b + 1 < 300 := by omega
  have lb2_b : b + 2 < 300 := by omega
  have lb3_b : b + 3 < 300 := by omega
  have lb4_b : b + 4 < 300 := by omega
  have lb5_b : b + 5 < 300 := by omega
  refine Ct.of (by decide) (Nat.le_of_ble_eq_true rfl) ?_
  intro p e s m args below meth c Q X hr hlk hQ
  have hx := X.1
  have hb := X.2.1
  intro H locs ls hw hl
  have hl : lv_has ls 2 [(0, .ref (ga G b)), (1, .int a1)] := hl
  unfold f_X0_has at h
  refine lv_iload_n hx hb d_X0_has_0 rfl (lv_at hl 1 rfl) ?_
  refine lv_if_lt (tgt := 16) hx hb d_X0_has_1 (by decide) (fun hc => ?_) (fun hc => ?_)
  · simp only [if_pos hc] at h
    refine lv_iconst (v := (0 : Int32)) hx hb d_X0_has_16 (by decide) ?_
    obtain rfl := Option.some.inj h
    subst hQ
    exact r_zret X hr nbz0 hlk hw d_X0_has_17
  · simp only [if_neg hc] at h
    refine lv_iload_n hx hb d_X0_has_4 rfl (lv_at hl 1 rfl) ?_
    refine lv_aload_n hx hb d_X0_has_5 rfl (lv_at hl 0 rfl) ?_
    refine r_geti (j := 5) X hw ct0 ob0_b lb0_b rfl (Nat.le_of_ble_eq_true rfl) wd_91 d_X0_has_6 ?_
    refine lv_icmp_ge (tgt := 16) hx hb d_X0_has_9 (by decide) (fun hc => ?_) (fun hc => ?_)
    · simp only [if_pos hc] at h
      refine lv_iconst (v := (0 : Int32)) hx hb d_X0_has_16 (by decide) ?_
      obtain rfl := Option.some.inj h
      subst hQ
      exact r_zret X hr nbz0 hlk hw d_X0_has_17
    · simp only [if_neg hc] at h
      refine lv_iconst (v := (1 : Int32)) hx hb d_X0_has_12 (by decide) ?_
      refine lv_goto (tgt := 17) hx hb d_X0_has_13 (by decide) ?_
      obtain rfl := Option.some.inj h
      subst hQ
      exact r_zret X hr nbz1 hlk hw d_X0_has_17
abbrev yX0_all : MethodName := ⟨"OysterBeds$Bed", "all", "()I"⟩
theorem mwX0_all : MW yX0_all prog_2_method_5_code 1 (some .int) 0 := ⟨wd_572, wd_4, by decide +kernel⟩
theorem d_X0_all_0 : decode prog_2_method_5_code 0 = .ok (.iconst 1, 1) := by decide +kernel
theorem d_X0_all_1 : decode prog_2_method_5_code 1 = .ok (.aload_n 0, 1) := by decide +kernel
theorem d_X0_all_2 : decode prog_2_method_5_code 2 = .ok (.getfield 27, 3) := by decide +kernel
theorem d_X0_all_5 : decode prog_2_method_5_code 5 = .ok (.ishl, 1) := by decide +kernel
theorem d_X0_all_6 : decode prog_2_method_5_code 6 = .ok (.iconst 1, 1) := by decide +kernel
theorem d_X0_all_7 : decode prog_2_method_5_code 7 = .ok (.isub, 1) := by decide +kernel
theorem d_X0_all_8 : decode prog_2_method_5_code 8 = .ok (.ireturn, 1) := by decide +kernel
def f_X0_all (χ : St) (b : Nat) : Option (Int32) := some (((1 : Int32) <<< ((cF χ b 5) &&& 31)) - (1 : Int32))
theorem c_X0_all {l : Launch} {G : gT} {χ σ : St} {b : Nat} (hf : FW G) (hb_b : isBed b = true) {q : Int32} (h : f_X0_all χ b = some q) : Ct l G yX0_all prog_2_method_5_code 1 (some .int) 0 0 [.ref (ga G b)] χ σ (some (.int q)) χ σ := by
  obtain ⟨ob0_b, ob1_b, ob2_b, ob3_b, ob4_b, ob5_b, lb_b, -, -⟩ := bed_at hf hb_b
  have lb0_b : b < 300 := by omega
  have lb1_b : b + 1 < 300 := by omega
  have lb2_b : b + 2 < 300 := by omega
  have lb3_b : b + 3 < 300 := by omega
  have lb4_b : b + 4 < 300 := by omega
  have lb5_b : b + 5 < 300 := by omega
  refine Ct.of (by decide) (Nat.le_of_ble_eq_true rfl) ?_
  intro p e s m args below meth c Q X hr hlk hQ
  have hx := X.1
  have hb := X.2.1
  intro H locs ls hw hl
  have hl : lv_has ls 1 [(0, .ref (ga G b))] := hl
  unfold f_X0_all at h
  refine lv_iconst (v := (1 : Int32)) hx hb d_X0_all_0 (by decide) ?_
  refine lv_aload_n hx hb d_X0_all_1 rfl (lv_at hl 0 rfl) ?_
  refine r_geti (j := 5) X hw ct0 ob0_b lb0_b rfl (Nat.le_of_ble_eq_true rfl) wd_91 d_X0_all_2 ?_
  refine lv_ishl hx hb d_X0_all_5 ?_
  refine lv_iconst (v := (1 : Int32)) hx hb d_X0_all_6 (by decide) ?_
  refine lv_isub hx hb d_X0_all_7 ?_
  obtain rfl := Option.some.inj h
  subst hQ
  exact r_iret X hr hlk hw d_X0_all_8
abbrev yX0_openIn : MethodName := ⟨"OysterBeds$Bed", "openIn", "(I)I"⟩
theorem mwX0_openIn : MW yX0_openIn prog_2_method_7_code 4 (some .int) 1 := ⟨wd_434, wd_4, by decide +kernel⟩
theorem d_X0_openIn_0 : decode prog_2_method_7_code 0 = .ok (.iconst 0, 1) := by decide +kernel
theorem d_X0_openIn_1 : decode prog_2_method_7_code 1 = .ok (.istore_n 2, 1) := by decide +kernel
theorem d_X0_openIn_2 : decode prog_2_method_7_code 2 = .ok (.iconst 0, 1) := by decide +kernel
theorem d_X0_openIn_3 : decode prog_2_method_7_code 3 = .ok (.istore_n 3, 1) := by decide +kernel
theorem d_X0_openIn_4 : decode prog_2_method_7_code 4 = .ok (.iload_n 3, 1) := by decide +kernel
theorem d_X0_openIn_5 : decode prog_2_method_7_code 5 = .ok (.aload_n 0, 1) := by decide +kernel
theorem d_X0_openIn_6 : decode prog_2_method_7_code 6 = .ok (.getfield 27, 3) := by decide +kernel
theorem d_X0_openIn_9 : decode prog_2_method_7_code 9 = .ok (.if_icmp .ge 25, 3) := by decide +kernel
theorem d_X0_openIn_12 : decode prog_2_method_7_code 12 = .ok (.aload_n 0, 1) := by decide +kernel
theorem d_X0_openIn_13 : decode prog_2_method_7_code 13 = .ok (.getfield 21, 3) := by decide +kernel
theorem d_X0_openIn_16 : decode prog_2_method_7_code 16 = .ok (.iload_n 3, 1) := by decide +kernel
theorem d_X0_openIn_17 : decode prog_2_method_7_code 17 = .ok (.iaload, 1) := by decide +kernel
theorem d_X0_openIn_18 : decode prog_2_method_7_code 18 = .ok (.iload_n 1, 1) := by decide +kernel
theorem d_X0_openIn_19 : decode prog_2_method_7_code 19 = .ok (.if_icmp .gt 9, 3) := by decide +kernel
theorem d_X0_openIn_22 : decode prog_2_method_7_code 22 = .ok (.iload_n 2, 1) := by decide +kernel
theorem d_X0_openIn_23 : decode prog_2_method_7_code 23 = .ok (.iconst 1, 1) := by decide +kernel
theorem d_X0_openIn_24 : decode prog_2_method_7_code 24 = .ok (.iload_n 3, 1) := by decide +kernel
theorem d_X0_openIn_25 : decode prog_2_method_7_code 25 = .ok (.ishl, 1) := by decide +kernel
theorem d_X0_openIn_26 : decode prog_2_method_7_code 26 = .ok (.ior, 1) := by decide +kernel
theorem d_X0_openIn_27 : decode prog_2_method_7_code 27 = .ok (.istore_n 2, 1) := by decide +kernel
theorem d_X0_openIn_28 : decode prog_2_method_7_code 28 = .ok (.iinc 3 1, 3) := by decide +kernel
theorem d_X0_openIn_31 : decode prog_2_method_7_code 31 = .ok (.goto (-27), 3) := by decide +kernel
theorem d_X0_openIn_34 : decode prog_2_method_7_code 34 = .ok (.iload_n 2, 1) := by decide +kernel
theorem d_X0_openIn_35 : decode prog_2_method_7_code 35 = .ok (.ireturn, 1) := by decide +kernel
def f_X0_openIn_j28_4 (b : Nat) (χ : St) (x1 : Int32) (x2 : Int32) (x3 : Int32) : Option ((Int32 × Int32) ⊕ (Int32)) := some (.inl (x2, (x3 + (1 : Int32))))
def f_X0_openIn_s4 (b : Nat) (χ : St) (y1 : Int32) (x2 : Int32) (x3 : Int32) : Option ((Int32 × Int32) ⊕ (Int32)) := (if (cF χ b 5) ≤ x3 then some (.inr x2) else gd (inb x3 8) (f_X0_openIn_j28_4 b χ y1 (if y1 < (cA χ (b + 4) x3.toNatClampNeg) then x2 else (x2 ||| ((1 : Int32) <<< (x3 &&& 31)))) x3))
def f_X0_openIn (χ : St) (b : Nat) (a1 : Int32) : Option (Int32) := (iter (fun z => f_X0_openIn_s4 b χ a1 z.1 z.2) FU ((0 : Int32), (0 : Int32))).bind (fun z2 => some z2)
theorem c_X0_openIn {l : Launch} {G : gT} {χ σ : St} {b : Nat} {a1 : Int32} (hf : FW G) (hb_b : isBed b = true) {q : Int32} (h : f_X0_openIn χ b a1 = some q) : Ct l G yX0_openIn prog_2_method_7_code 4 (some .int) 0 0 [.ref (ga G b), .int a1] χ σ (some (.int q)) χ σ := by
  obtain ⟨ob0_b, ob1_b, ob2_b, ob3_b, ob4_b, ob5_b, lb_b, -, -⟩ := bed_at hf hb_b
  have lb0_b : b < 300 := by omega
  have lb1_b : b + 1 < 300 := by omega
  have lb2_b : b + 2 < 300 := by omega
  have lb3_b : b + 3 < 300 := by omega
  have lb4_b : b + 4 < 300 := by omega
  have lb5_b : b + 5 < 300 := by omega
  refine Ct.of (by decide) (Nat.le_of_ble_eq_true rfl) ?_
  intro p e s m args below meth c Q X hr hlk hQ
  have hx := X.1
  have hb := X.2.1
  have j28_4 : ∀ (x1 : Int32) (x2 : Int32) (x3 : Int32) (o : (Int32 × Int32) ⊕ (Int32)), f_X0_openIn_j28_4 b χ x1 x2 x3 = some o → Sum.elim (fun z : Int32 × Int32 => Wat p l e (rmk 0 0) s m args below meth c Q G 4 4 [] [(2, .int z.1), (3, .int z.2), (0, .ref (ga G b)), (1, .int x1)] χ σ) (fun z : Int32 => Wat p l e (rmk 0 0) s m args below meth c Q G 4 34 [] [(2, .int z)] χ σ) o → Wat p l e (rmk 0 0) s m args below meth c Q G 4 28 [] [(0, .ref (ga G b)), (1, .int x1), (2, .int x2), (3, .int x3)] χ σ := by
    intro x1 x2 x3 o h hk H locs ls hw hl
    unfold f_X0_openIn_j28_4 at h
    refine lv_iinc (v := (x3 + (1 : Int32))) (k := 3) (lv' := [(3, .int (x3 + (1 : Int32))), (0, .ref (ga G b)), (1, .int x1), (2, .int x2)]) hx hb d_X0_openIn_28 hl rfl (by rfl) (Nat.le_of_ble_eq_true rfl) rfl (fun ls hl => ?_)
    refine lv_goto (tgt := 4) hx hb d_X0_openIn_31 (by decide) ?_
    obtain rfl := Option.some.inj h
    dsimp only [Sum.elim_inl] at hk
    exact hk _ _ _ hw (lv_sub hl [3, 0, 1, 2] rfl)
  have b4 : ∀ (y1 : Int32) (x2 : Int32) (x3 : Int32) (o : (Int32 × Int32) ⊕ (Int32)), f_X0_openIn_s4 b χ y1 x2 x3 = some o → Sum.elim (fun z : Int32 × Int32 => Wat p l e (rmk 0 0) s m args below meth c Q G 4 4 [] [(2, .int z.1), (3, .int z.2), (0, .ref (ga G b)), (1, .int y1)] χ σ) (fun z : Int32 => Wat p l e (rmk 0 0) s m args below meth c Q G 4 34 [] [(2, .int z)] χ σ) o → Wat p l e (rmk 0 0) s m args below meth c Q G 4 4 [] [(2, .int x2), (3, .int x3), (0, .ref (ga G b)), (1, .int y1)] χ σ := by
    intro y1 x2 x3 o h hk H locs ls hw hl
    unfold f_X0_openIn_s4 at h
    refine lv_iload_n hx hb d_X0_openIn_4 rfl (lv_at hl 1 rfl) ?_
    refine lv_aload_n hx hb d_X0_openIn_5 rfl (lv_at hl 2 rfl) ?_
    refine r_geti (j := 5) X hw ct0 ob0_b lb0_b rfl (Nat.le_of_ble_eq_true rfl) wd_91 d_X0_openIn_6 ?_
    refine lv_icmp_ge (tgt := 34) hx hb d_X0_openIn_9 (by decide) (fun hc => ?_) (fun hc => ?_)
    · have h := ite_t h hc
      obtain rfl := Option.some.inj h
      dsimp only [Sum.elim_inr] at hk
      exact hk _ _ _ hw (lv_sub hl [0] rfl)
    · have h := ite_f h hc
      refine lv_aload_n hx hb d_X0_openIn_12 rfl (lv_at hl 2 rfl) ?_
      refine r_getr (j := 3) X hw ct0 ob0_b rfl (Nat.le_of_ble_eq_true rfl) (q := (b + 4)) (rt_bed hb_b) wd_83 d_X0_openIn_13 ?_
      refine lv_iload_n hx hb d_X0_openIn_16 rfl (lv_at hl 1 rfl) ?_
      obtain ⟨hi1, h⟩ := gd_some h
      refine r_iald X hw ob4_b lb4_b hi1 d_X0_openIn_17 ?_
      refine lv_iload_n hx hb d_X0_openIn_18 rfl (lv_at hl 3 rfl) ?_
      refine lv_icmp_gt (tgt := 28) hx hb d_X0_openIn_19 (by decide) (fun hc => ?_) (fun hc => ?_)
      · simp only [if_pos hc] at h
        exact j28_4 y1 x2 x3 o h hk _ _ _ hw (lv_sub hl [2, 3, 0, 1] rfl)
      · simp only [if_neg hc] at h
        refine lv_iload_n hx hb d_X0_openIn_22 rfl (lv_at hl 0 rfl) ?_
        refine lv_iconst (v := (1 : Int32)) hx hb d_X0_openIn_23 (by decide) ?_
        refine lv_iload_n hx hb d_X0_openIn_24 rfl (lv_at hl 1 rfl) ?_
        refine lv_ishl hx hb d_X0_openIn_25 ?_
        refine lv_ior hx hb d_X0_openIn_26 ?_
        refine lv_istore_n (lv' := [(2, .int (x2 ||| ((1 : Int32) <<< (x3 &&& 31)))), (3, .int x3), (0, .ref (ga G b)), (1, .int y1)]) hx hb d_X0_openIn_27 rfl hl (Nat.le_of_ble_eq_true rfl) rfl (fun ls hl => ?_)
        exact j28_4 y1 (x2 ||| ((1 : Int32) <<< (x3 &&& 31))) x3 o h hk _ _ _ hw (lv_sub hl [2, 3, 0, 1] rfl)
  intro H locs ls hw hl
  have hl : lv_has ls 4 [(0, .ref (ga G b)), (1, .int a1)] := hl
  unfold f_X0_openIn at h
  refine lv_iconst (v := (0 : Int32)) hx hb d_X0_openIn_0 (by decide) ?_
  refine lv_istore_n (lv' := [(2, .int (0 : Int32)), (0, .ref (ga G b)), (1, .int a1)]) hx hb d_X0_openIn_1 rfl hl (Nat.le_of_ble_eq_true rfl) rfl (fun ls hl => ?_)
  refine lv_iconst (v := (0 : Int32)) hx hb d_X0_openIn_2 (by decide) ?_
  refine lv_istore_n (lv' := [(3, .int (0 : Int32)), (2, .int (0 : Int32)), (0, .ref (ga G b)), (1, .int a1)]) hx hb d_X0_openIn_3 rfl hl (Nat.le_of_ble_eq_true rfl) rfl (fun ls hl => ?_)
  obtain ⟨z2, e3, h⟩ := bd_some h
  refine iter_w (Wh := fun z : Int32 × Int32 => Wat p l e (rmk 0 0) s m args below meth c Q G 4 4 [] [(2, .int z.1), (3, .int z.2), (0, .ref (ga G b)), (1, .int a1)] χ σ) (K := fun z : Int32 => Wat p l e (rmk 0 0) s m args below meth c Q G 4 34 [] [(2, .int z)] χ σ) (fun z o h1 h2 => b4 a1 z.1 z.2 o h1 h2) FU _ _ e3 ?_ _ _ _ hw (lv_sub hl [1, 0, 2, 3] rfl)
  intro H locs ls hw hl
  refine lv_iload_n hx hb d_X0_openIn_34 rfl (lv_at hl 0 rfl) ?_
  obtain rfl := Option.some.inj h
  subst hQ
  exact r_iret X hr hlk hw d_X0_openIn_35
abbrev yX0_openOnes : MethodName := ⟨"OysterBeds$Bed", "openOnes", "()I"⟩
theorem mwX0_openOnes : MW yX0_openOnes prog_2_method_6_code 1 (some .int) 0 := ⟨wd_430, wd_4, by decide +kernel⟩
theorem d_X0_openOnes_0 : decode prog_2_method_6_code 0 = .ok (.aload_n 0, 1) := by decide +kernel
theorem d_X0_openOnes_1 : decode prog_2_method_6_code 1 = .ok (.iconst 0, 1) := by decide +kernel
theorem d_X0_openOnes_2 : decode prog_2_method_6_code 2 = .ok (.invokevirtual 37, 3) := by decide +kernel
theorem d_X0_openOnes_5 : decode prog_2_method_6_code 5 = .ok (.ireturn, 1) := by decide +kernel
def f_X0_openOnes (χ : St) (b : Nat) : Option (Int32) := (f_X0_openIn χ b (0 : Int32)).bind (fun q1 => some q1)
theorem c_X0_openOnes {l : Launch} {G : gT} {χ σ : St} {b : Nat} (hf : FW G) (hb_b : isBed b = true) {q : Int32} (h : f_X0_openOnes χ b = some q) : Ct l G yX0_openOnes prog_2_method_6_code 1 (some .int) 1 23 [.ref (ga G b)] χ σ (some (.int q)) χ σ := by
  obtain ⟨ob0_b, ob1_b, ob2_b, ob3_b, ob4_b, ob5_b, lb_b, -, -⟩ := bed_at hf hb_b
  have lb0_b : b < 300 := by omega
  have lb1_b : b + 1 < 300 := by omega
  have lb2_b : b + 2 < 300 := by omega
  have lb3_b : b + 3 < 300 := by omega
  have lb4_b : b + 4 < 300 := by omega
  have lb5_b : b + 5 < 300 := by omega
  refine Ct.of (by decide) (Nat.le_of_ble_eq_true rfl) ?_
  intro p e s m args below meth c Q X hr hlk hQ
  have hx := X.1
  have hb := X.2.1
  intro H locs ls hw hl
  have hl : lv_has ls 1 [(0, .ref (ga G b))] := hl
  unfold f_X0_openOnes at h
  refine lv_aload_n hx hb d_X0_openOnes_0 rfl (lv_at hl 0 rfl) ?_
  refine lv_iconst (v := (0 : Int32)) hx hb d_X0_openOnes_1 (by decide) ?_
  obtain ⟨q1, e2, h⟩ := bd_some h
  refine r_callV (As := [.int (0 : Int32)]) (rest := []) (st' := [.int q1]) X hw hl mwX0_openIn wd_432 wd_433 wd_431 (c_X0_openIn hf hb_b e2) (r_recv X hw ct0 ob0_b) rfl ⟨Nat.le_of_ble_eq_true rfl, Nat.le_of_ble_eq_true rfl⟩ ⟨Nat.le_refl _, Nat.le_refl _⟩ rfl rfl (Nat.le_of_ble_eq_true rfl) d_X0_openOnes_2 (fun H locs hw => ?_)
  obtain rfl := Option.some.inj h
  subst hQ
  exact r_iret X hr hlk hw d_X0_openOnes_5
abbrev yX0_yesOnes : MethodName := ⟨"OysterBeds$Bed", "yesOnes", "(I)I"⟩
theorem mwX0_yesOnes : MW yX0_yesOnes prog_2_method_8_code 4 (some .int) 1 := ⟨wd_512, wd_4, by decide +kernel⟩
theorem d_X0_yesOnes_0 : decode prog_2_method_8_code 0 = .ok (.iconst 0, 1) := by decide +kernel
theorem d_X0_yesOnes_1 : decode prog_2_method_8_code 1 = .ok (.istore_n 2, 1) := by decide +kernel
theorem d_X0_yesOnes_2 : decode prog_2_method_8_code 2 = .ok (.iconst 0, 1) := by decide +kernel
theorem d_X0_yesOnes_3 : decode prog_2_method_8_code 3 = .ok (.istore_n 3, 1) := by decide +kernel
theorem d_X0_yesOnes_4 : decode prog_2_method_8_code 4 = .ok (.iload_n 3, 1) := by decide +kernel
theorem d_X0_yesOnes_5 : decode prog_2_method_8_code 5 = .ok (.aload_n 0, 1) := by decide +kernel
theorem d_X0_yesOnes_6 : decode prog_2_method_8_code 6 = .ok (.getfield 27, 3) := by decide +kernel
theorem d_X0_yesOnes_9 : decode prog_2_method_8_code 9 = .ok (.if_icmp .ge 24, 3) := by decide +kernel
theorem d_X0_yesOnes_12 : decode prog_2_method_8_code 12 = .ok (.iload_n 2, 1) := by decide +kernel
theorem d_X0_yesOnes_13 : decode prog_2_method_8_code 13 = .ok (.aload_n 0, 1) := by decide +kernel
theorem d_X0_yesOnes_14 : decode prog_2_method_8_code 14 = .ok (.getfield 18, 3) := by decide +kernel
theorem d_X0_yesOnes_17 : decode prog_2_method_8_code 17 = .ok (.iload_n 3, 1) := by decide +kernel
theorem d_X0_yesOnes_18 : decode prog_2_method_8_code 18 = .ok (.iaload, 1) := by decide +kernel
theorem d_X0_yesOnes_19 : decode prog_2_method_8_code 19 = .ok (.iload_n 1, 1) := by decide +kernel
theorem d_X0_yesOnes_20 : decode prog_2_method_8_code 20 = .ok (.ishr, 1) := by decide +kernel
theorem d_X0_yesOnes_21 : decode prog_2_method_8_code 21 = .ok (.iconst 1, 1) := by decide +kernel
theorem d_X0_yesOnes_22 : decode prog_2_method_8_code 22 = .ok (.iand, 1) := by decide +kernel
theorem d_X0_yesOnes_23 : decode prog_2_method_8_code 23 = .ok (.iload_n 3, 1) := by decide +kernel
theorem d_X0_yesOnes_24 : decode prog_2_method_8_code 24 = .ok (.ishl, 1) := by decide +kernel
theorem d_X0_yesOnes_25 : decode prog_2_method_8_code 25 = .ok (.ior, 1) := by decide +kernel
theorem d_X0_yesOnes_26 : decode prog_2_method_8_code 26 = .ok (.istore_n 2, 1) := by decide +kernel
theorem d_X0_yesOnes_27 : decode prog_2_method_8_code 27 = .ok (.iinc 3 1, 3) := by decide +kernel
theorem d_X0_yesOnes_30 : decode prog_2_method_8_code 30 = .ok (.goto (-26), 3) := by decide +kernel
theorem d_X0_yesOnes_33 : decode prog_2_method_8_code 33 = .ok (.iload_n 2, 1) := by decide +kernel
theorem d_X0_yesOnes_34 : decode prog_2_method_8_code 34 = .ok (.ireturn, 1) := by decide +kernel
def f_X0_yesOnes_s4 (b : Nat) (χ : St) (y1 : Int32) (x2 : Int32) (x3 : Int32) : Option ((Int32 × Int32) ⊕ (Int32)) := (if (cF χ b 5) ≤ x3 then some (.inr x2) else gd (inb x3 8) (some (.inl ((x2 ||| ((((cA χ (b + 3) x3.toNatClampNeg) >>> (y1 &&& 31)) &&& (1 : Int32)) <<< (x3 &&& 31))), (x3 + (1 : Int32))))))
def f_X0_yesOnes (χ : St) (b : Nat) (a1 : Int32) : Option (Int32) := (iter (fun z => f_X0_yesOnes_s4 b χ a1 z.1 z.2) FU ((0 : Int32), (0 : Int32))).bind (fun z2 => some z2)
theorem c_X0_yesOnes {l : Launch} {G : gT} {χ σ : St} {b : Nat} {a1 : Int32} (hf : FW G) (hb_b : isBed b = true) {q : Int32} (h : f_X0_yesOnes χ b a1 = some q) : Ct l G yX0_yesOnes prog_2_method_8_code 4 (some .int) 0 0 [.ref (ga G b), .int a1] χ σ (some (.int q)) χ σ := by
  obtain ⟨ob0_b, ob1_b, ob2_b, ob3_b, ob4_b, ob5_b, lb_b, -, -⟩ := bed_at hf hb_b
  have lb0_b : b < 300 := by omega
  have lb1_b : b + 1 < 300 := by omega
  have lb2_b : b + 2 < 300 := by omega
  have lb3_b : b + 3 < 300 := by omega
  have lb4_b : b + 4 < 300 := by omega
  have lb5_b : b + 5 < 300 := by omega
  refine Ct.of (by decide) (Nat.le_of_ble_eq_true rfl) ?_
  intro p e s m args below meth c Q X hr hlk hQ
  have hx := X.1
  have hb := X.2.1
  have b4 : ∀ (y1 : Int32) (x2 : Int32) (x3 : Int32) (o : (Int32 × Int32) ⊕ (Int32)), f_X0_yesOnes_s4 b χ y1 x2 x3 = some o → Sum.elim (fun z : Int32 × Int32 => Wat p l e (rmk 0 0) s m args below meth c Q G 4 4 [] [(2, .int z.1), (3, .int z.2), (0, .ref (ga G b)), (1, .int y1)] χ σ) (fun z : Int32 => Wat p l e (rmk 0 0) s m args below meth c Q G 4 33 [] [(2, .int z)] χ σ) o → Wat p l e (rmk 0 0) s m args below meth c Q G 4 4 [] [(2, .int x2), (3, .int x3), (0, .ref (ga G b)), (1, .int y1)] χ σ := by
    intro y1 x2 x3 o h hk H locs ls hw hl
    unfold f_X0_yesOnes_s4 at h
    refine lv_iload_n hx hb d_X0_yesOnes_4 rfl (lv_at hl 1 rfl) ?_
    refine lv_aload_n hx hb d_X0_yesOnes_5 rfl (lv_at hl 2 rfl) ?_
    refine r_geti (j := 5) X hw ct0 ob0_b lb0_b rfl (Nat.le_of_ble_eq_true rfl) wd_91 d_X0_yesOnes_6 ?_
    refine lv_icmp_ge (tgt := 33) hx hb d_X0_yesOnes_9 (by decide) (fun hc => ?_) (fun hc => ?_)
    · have h := ite_t h hc
      obtain rfl := Option.some.inj h
      dsimp only [Sum.elim_inr] at hk
      exact hk _ _ _ hw (lv_sub hl [0] rfl)
    · have h := ite_f h hc
      refine lv_iload_n hx hb d_X0_yesOnes_12 rfl (lv_at hl 0 rfl) ?_
      refine lv_aload_n hx hb d_X0_yesOnes_13 rfl (lv_at hl 2 rfl) ?_
      refine r_getr (j := 2) X hw ct0 ob0_b rfl (Nat.le_of_ble_eq_true rfl) (q := (b + 3)) (rt_bed hb_b) wd_79 d_X0_yesOnes_14 ?_
      refine lv_iload_n hx hb d_X0_yesOnes_17 rfl (lv_at hl 1 rfl) ?_
      obtain ⟨hi1, h⟩ := gd_some h
      refine r_iald X hw ob3_b lb3_b hi1 d_X0_yesOnes_18 ?_
      refine lv_iload_n hx hb d_X0_yesOnes_19 rfl (lv_at hl 3 rfl) ?_
      refine lv_ishr hx hb d_X0_yesOnes_20 ?_
      refine lv_iconst (v := (1 : Int32)) hx hb d_X0_yesOnes_21 (by decide) ?_
      refine lv_iand hx hb d_X0_yesOnes_22 ?_
      refine lv_iload_n hx hb d_X0_yesOnes_23 rfl (lv_at hl 1 rfl) ?_
      refine lv_ishl hx hb d_X0_yesOnes_24 ?_
      refine lv_ior hx hb d_X0_yesOnes_25 ?_
      refine lv_istore_n (lv' := [(2, .int (x2 ||| ((((cA χ (b + 3) x3.toNatClampNeg) >>> (y1 &&& 31)) &&& (1 : Int32)) <<< (x3 &&& 31)))), (3, .int x3), (0, .ref (ga G b)), (1, .int y1)]) hx hb d_X0_yesOnes_26 rfl hl (Nat.le_of_ble_eq_true rfl) rfl (fun ls hl => ?_)
      refine lv_iinc (v := (x3 + (1 : Int32))) (k := 1) (lv' := [(3, .int (x3 + (1 : Int32))), (2, .int (x2 ||| ((((cA χ (b + 3) x3.toNatClampNeg) >>> (y1 &&& 31)) &&& (1 : Int32)) <<< (x3 &&& 31)))), (0, .ref (ga G b)), (1, .int y1)]) hx hb d_X0_yesOnes_27 hl rfl (by rfl) (Nat.le_of_ble_eq_true rfl) rfl (fun ls hl => ?_)
      refine lv_goto (tgt := 4) hx hb d_X0_yesOnes_30 (by decide) ?_
      obtain rfl := Option.some.inj h
      dsimp only [Sum.elim_inl] at hk
      exact hk _ _ _ hw (lv_sub hl [1, 0, 2, 3] rfl)
  intro H locs ls hw hl
  have hl : lv_has ls 4 [(0, .ref (ga G b)), (1, .int a1)] := hl
  unfold f_X0_yesOnes at h
  refine lv_iconst (v := (0 : Int32)) hx hb d_X0_yesOnes_0 (by decide) ?_
  refine lv_istore_n (lv' := [(2, .int (0 : Int32)), (0, .ref (ga G b)), (1, .int a1)]) hx hb d_X0_yesOnes_1 rfl hl (Nat.le_of_ble_eq_true rfl) rfl (fun ls hl => ?_)
  refine lv_iconst (v := (0 : Int32)) hx hb d_X0_yesOnes_2 (by decide) ?_
  refine lv_istore_n (lv' := [(3, .int (0 : Int32)), (2, .int (0 : Int32)), (0, .ref (ga G b)), (1, .int a1)]) hx hb d_X0_yesOnes_3 rfl hl (Nat.le_of_ble_eq_true rfl) rfl (fun ls hl => ?_)
  obtain ⟨z2, e3, h⟩ := bd_some h
  refine iter_w (Wh := fun z : Int32 × Int32 => Wat p l e (rmk 0 0) s m args below meth c Q G 4 4 [] [(2, .int z.1), (3, .int z.2), (0, .ref (ga G b)), (1, .int a1)] χ σ) (K := fun z : Int32 => Wat p l e (rmk 0 0) s m args below meth c Q G 4 33 [] [(2, .int z)] χ σ) (fun z o h1 h2 => b4 a1 z.1 z.2 o h1 h2) FU _ _ e3 ?_ _ _ _ hw (lv_sub hl [1, 0, 2, 3] rfl)
  intro H locs ls hw hl
  refine lv_iload_n hx hb d_X0_yesOnes_33 rfl (lv_at hl 0 rfl) ?_
  obtain rfl := Option.some.inj h
  subst hQ
  exact r_iret X hr hlk hw d_X0_yesOnes_34
abbrev yX0_onesOfKind : MethodName := ⟨"OysterBeds$Bed", "onesOfKind", "(I)I"⟩
theorem mwX0_onesOfKind : MW yX0_onesOfKind prog_2_method_9_code 4 (some .int) 1 := ⟨wd_532, wd_4, by decide +kernel⟩
theorem d_X0_onesOfKind_0 : decode prog_2_method_9_code 0 = .ok (.iconst 0, 1) := by decide +kernel
theorem d_X0_onesOfKind_1 : decode prog_2_method_9_code 1 = .ok (.istore_n 2, 1) := by decide +kernel
theorem d_X0_onesOfKind_2 : decode prog_2_method_9_code 2 = .ok (.iconst 0, 1) := by decide +kernel
theorem d_X0_onesOfKind_3 : decode prog_2_method_9_code 3 = .ok (.istore_n 3, 1) := by decide +kernel
theorem d_X0_onesOfKind_4 : decode prog_2_method_9_code 4 = .ok (.iload_n 3, 1) := by decide +kernel
theorem d_X0_onesOfKind_5 : decode prog_2_method_9_code 5 = .ok (.aload_n 0, 1) := by decide +kernel
theorem d_X0_onesOfKind_6 : decode prog_2_method_9_code 6 = .ok (.getfield 27, 3) := by decide +kernel
theorem d_X0_onesOfKind_9 : decode prog_2_method_9_code 9 = .ok (.if_icmp .ge 25, 3) := by decide +kernel
theorem d_X0_onesOfKind_12 : decode prog_2_method_9_code 12 = .ok (.aload_n 0, 1) := by decide +kernel
theorem d_X0_onesOfKind_13 : decode prog_2_method_9_code 13 = .ok (.getfield 9, 3) := by decide +kernel
theorem d_X0_onesOfKind_16 : decode prog_2_method_9_code 16 = .ok (.iload_n 3, 1) := by decide +kernel
theorem d_X0_onesOfKind_17 : decode prog_2_method_9_code 17 = .ok (.iaload, 1) := by decide +kernel
theorem d_X0_onesOfKind_18 : decode prog_2_method_9_code 18 = .ok (.iload_n 1, 1) := by decide +kernel
theorem d_X0_onesOfKind_19 : decode prog_2_method_9_code 19 = .ok (.if_icmp .ne 9, 3) := by decide +kernel
theorem d_X0_onesOfKind_22 : decode prog_2_method_9_code 22 = .ok (.iload_n 2, 1) := by decide +kernel
theorem d_X0_onesOfKind_23 : decode prog_2_method_9_code 23 = .ok (.iconst 1, 1) := by decide +kernel
theorem d_X0_onesOfKind_24 : decode prog_2_method_9_code 24 = .ok (.iload_n 3, 1) := by decide +kernel
theorem d_X0_onesOfKind_25 : decode prog_2_method_9_code 25 = .ok (.ishl, 1) := by decide +kernel
theorem d_X0_onesOfKind_26 : decode prog_2_method_9_code 26 = .ok (.ior, 1) := by decide +kernel
theorem d_X0_onesOfKind_27 : decode prog_2_method_9_code 27 = .ok (.istore_n 2, 1) := by decide +kernel
theorem d_X0_onesOfKind_28 : decode prog_2_method_9_code 28 = .ok (.iinc 3 1, 3) := by decide +kernel
theorem d_X0_onesOfKind_31 : decode prog_2_method_9_code 31 = .ok (.goto (-27), 3) := by decide +kernel
theorem d_X0_onesOfKind_34 : decode prog_2_method_9_code 34 = .ok (.iload_n 2, 1) := by decide +kernel
theorem d_X0_onesOfKind_35 : decode prog_2_method_9_code 35 = .ok (.ireturn, 1) := by decide +kernel
def f_X0_onesOfKind_j28_4 (b : Nat) (χ : St) (x1 : Int32) (x2 : Int32) (x3 : Int32) : Option ((Int32 × Int32) ⊕ (Int32)) := some (.inl (x2, (x3 + (1 : Int32))))
def f_X0_onesOfKind_s4 (b : Nat) (χ : St) (y1 : Int32) (x2 : Int32) (x3 : Int32) : Option ((Int32 × Int32) ⊕ (Int32)) := (if (cF χ b 5) ≤ x3 then some (.inr x2) else gd (inb x3 8) (f_X0_onesOfKind_j28_4 b χ y1 (if (cA χ (b + 1) x3.toNatClampNeg) = y1 then (x2 ||| ((1 : Int32) <<< (x3 &&& 31))) else x2) x3))
def f_X0_onesOfKind (χ : St) (b : Nat) (a1 : Int32) : Option (Int32) := (iter (fun z => f_X0_onesOfKind_s4 b χ a1 z.1 z.2) FU ((0 : Int32), (0 : Int32))).bind (fun z2 => some z2)
theorem c_X0_onesOfKind {l : Launch} {G : gT} {χ σ : St} {b : Nat} {a1 : Int32} (hf : FW G) (hb_b : isBed b = true) {q : Int32} (h : f_X0_onesOfKind χ b a1 = some q) : Ct l G yX0_onesOfKind prog_2_method_9_code 4 (some .int) 0 0 [.ref (ga G b), .int a1] χ σ (some (.int q)) χ σ := by
  obtain ⟨ob0_b, ob1_b, ob2_b, ob3_b, ob4_b, ob5_b, lb_b, -, -⟩ := bed_at hf hb_b
  have lb0_b : b < 300 := by omega
  have lb1_b : b + 1 < 300 := by omega
  have lb2_b : b + 2 < 300 := by omega
  have lb3_b : b + 3 < 300 := by omega
  have lb4_b : b + 4 < 300 := by omega
  have lb5_b : b + 5 < 300 := by omega
  refine Ct.of (by decide) (Nat.le_of_ble_eq_true rfl) ?_
  intro p e s m args below meth c Q X hr hlk hQ
  have hx := X.1
  have hb := X.2.1
  have j28_4 : ∀ (x1 : Int32) (x2 : Int32) (x3 : Int32) (o : (Int32 × Int32) ⊕ (Int32)), f_X0_onesOfKind_j28_4 b χ x1 x2 x3 = some o → Sum.elim (fun z : Int32 × Int32 => Wat p l e (rmk 0 0) s m args below meth c Q G 4 4 [] [(2, .int z.1), (3, .int z.2), (0, .ref (ga G b)), (1, .int x1)] χ σ) (fun z : Int32 => Wat p l e (rmk 0 0) s m args below meth c Q G 4 34 [] [(2, .int z)] χ σ) o → Wat p l e (rmk 0 0) s m args below meth c Q G 4 28 [] [(0, .ref (ga G b)), (1, .int x1), (2, .int x2), (3, .int x3)] χ σ := by
    intro x1 x2 x3 o h hk H locs ls hw hl
    unfold f_X0_onesOfKind_j28_4 at h
    refine lv_iinc (v := (x3 + (1 : Int32))) (k := 3) (lv' := [(3, .int (x3 + (1 : Int32))), (0, .ref (ga G b)), (1, .int x1), (2, .int x2)]) hx hb d_X0_onesOfKind_28 hl rfl (by rfl) (Nat.le_of_ble_eq_true rfl) rfl (fun ls hl => ?_)
    refine lv_goto (tgt := 4) hx hb d_X0_onesOfKind_31 (by decide) ?_
    obtain rfl := Option.some.inj h
    dsimp only [Sum.elim_inl] at hk
    exact hk _ _ _ hw (lv_sub hl [3, 0, 1, 2] rfl)
  have b4 : ∀ (y1 : Int32) (x2 : Int32) (x3 : Int32) (o : (Int32 × Int32) ⊕ (Int32)), f_X0_onesOfKind_s4 b χ y1 x2 x3 = some o → Sum.elim (fun z : Int32 × Int32 => Wat p l e (rmk 0 0) s m args below meth c Q G 4 4 [] [(2, .int z.1), (3, .int z.2), (0, .ref (ga G b)), (1, .int y1)] χ σ) (fun z : Int32 => Wat p l e (rmk 0 0) s m args below meth c Q G 4 34 [] [(2, .int z)] χ σ) o → Wat p l e (rmk 0 0) s m args below meth c Q G 4 4 [] [(2, .int x2), (3, .int x3), (0, .ref (ga G b)), (1, .int y1)] χ σ := by
    intro y1 x2 x3 o h hk H locs ls hw hl
    unfold f_X0_onesOfKind_s4 at h
    refine lv_iload_n hx hb d_X0_onesOfKind_4 rfl (lv_at hl 1 rfl) ?_
    refine lv_aload_n hx hb d_X0_onesOfKind_5 rfl (lv_at hl 2 rfl) ?_
    refine r_geti (j := 5) X hw ct0 ob0_b lb0_b rfl (Nat.le_of_ble_eq_true rfl) wd_91 d_X0_onesOfKind_6 ?_
    refine lv_icmp_ge (tgt := 34) hx hb d_X0_onesOfKind_9 (by decide) (fun hc => ?_) (fun hc => ?_)
    · have h := ite_t h hc
      obtain rfl := Option.some.inj h
      dsimp only [Sum.elim_inr] at hk
      exact hk _ _ _ hw (lv_sub hl [0] rfl)
    · have h := ite_f h hc
      refine lv_aload_n hx hb d_X0_onesOfKind_12 rfl (lv_at hl 2 rfl) ?_
      refine r_getr (j := 0) X hw ct0 ob0_b rfl (Nat.le_of_ble_eq_true rfl) (q := (b + 1)) (rt_bed hb_b) wd_70 d_X0_onesOfKind_13 ?_
      refine lv_iload_n hx hb d_X0_onesOfKind_16 rfl (lv_at hl 1 rfl) ?_
      obtain ⟨hi1, h⟩ := gd_some h
      refine r_iald X hw ob1_b lb1_b hi1 d_X0_onesOfKind_17 ?_
      refine lv_iload_n hx hb d_X0_onesOfKind_18 rfl (lv_at hl 3 rfl) ?_
      refine lv_icmp_ne (tgt := 28) hx hb d_X0_onesOfKind_19 (by decide) (fun hc => ?_) (fun hc => ?_)
      · simp only [if_neg hc] at h
        exact j28_4 y1 x2 x3 o h hk _ _ _ hw (lv_sub hl [2, 3, 0, 1] rfl)
      · simp only [if_pos hc] at h
        refine lv_iload_n hx hb d_X0_onesOfKind_22 rfl (lv_at hl 0 rfl) ?_
        refine lv_iconst (v := (1 : Int32)) hx hb d_X0_onesOfKind_23 (by decide) ?_
        refine lv_iload_n hx hb d_X0_onesOfKind_24 rfl (lv_at hl 1 rfl) ?_
        refine lv_ishl hx hb d_X0_onesOfKind_25 ?_
        refine lv_ior hx hb d_X0_onesOfKind_26 ?_
        refine lv_istore_n (lv' := [(2, .int (x2 ||| ((1 : Int32) <<< (x3 &&& 31)))), (3, .int x3), (0, .ref (ga G b)), (1, .int y1)]) hx hb d_X0_onesOfKind_27 rfl hl (Nat.le_of_ble_eq_true rfl) rfl (fun ls hl => ?_)
        exact j28_4 y1 (x2 ||| ((1 : Int32) <<< (x3 &&& 31))) x3 o h hk _ _ _ hw (lv_sub hl [2, 3, 0, 1] rfl)
  intro H locs ls hw hl
  have hl : lv_has ls 4 [(0, .ref (ga G b)), (1, .int a1)] := hl
  unfold f_X0_onesOfKind at h
  refine lv_iconst (v := (0 : Int32)) hx hb d_X0_onesOfKind_0 (by decide) ?_
  refine lv_istore_n (lv' := [(2, .int (0 : Int32)), (0, .ref (ga G b)), (1, .int a1)]) hx hb d_X0_onesOfKind_1 rfl hl (Nat.le_of_ble_eq_true rfl) rfl (fun ls hl => ?_)
  refine lv_iconst (v := (0 : Int32)) hx hb d_X0_onesOfKind_2 (by decide) ?_
  refine lv_istore_n (lv' := [(3, .int (0 : Int32)), (2, .int (0 : Int32)), (0, .ref (ga G b)), (1, .int a1)]) hx hb d_X0_onesOfKind_3 rfl hl (Nat.le_of_ble_eq_true rfl) rfl (fun ls hl => ?_)
  obtain ⟨z2, e3, h⟩ := bd_some h
  refine iter_w (Wh := fun z : Int32 × Int32 => Wat p l e (rmk 0 0) s m args below meth c Q G 4 4 [] [(2, .int z.1), (3, .int z.2), (0, .ref (ga G b)), (1, .int a1)] χ σ) (K := fun z : Int32 => Wat p l e (rmk 0 0) s m args below meth c Q G 4 34 [] [(2, .int z)] χ σ) (fun z o h1 h2 => b4 a1 z.1 z.2 o h1 h2) FU _ _ e3 ?_ _ _ _ hw (lv_sub hl [1, 0, 2, 3] rfl)
  intro H locs ls hw hl
  refine lv_iload_n hx hb d_X0_onesOfKind_34 rfl (lv_at hl 0 rfl) ?_
  obtain rfl := Option.some.inj h
  subst hQ
  exact r_iret X hr hlk hw d_X0_onesOfKind_35
abbrev yX0_pearls : MethodName := ⟨"OysterBeds$Bed", "pearls", "()I"⟩
theorem mwX0_pearls : MW yX0_pearls prog_2_method_10_code 3 (some .int) 0 := ⟨wd_845, wd_4, by decide +kernel⟩
theorem d_X0_pearls_0 : decode prog_2_method_10_code 0 = .ok (.iconst 0, 1) := by decide +kernel
theorem d_X0_pearls_1 : decode prog_2_method_10_code 1 = .ok (.istore_n 1, 1) := by decide +kernel
theorem d_X0_pearls_2 : decode prog_2_method_10_code 2 = .ok (.iconst 0, 1) := by decide +kernel
theorem d_X0_pearls_3 : decode prog_2_method_10_code 3 = .ok (.istore_n 2, 1) := by decide +kernel
theorem d_X0_pearls_4 : decode prog_2_method_10_code 4 = .ok (.iload_n 2, 1) := by decide +kernel
theorem d_X0_pearls_5 : decode prog_2_method_10_code 5 = .ok (.aload_n 0, 1) := by decide +kernel
theorem d_X0_pearls_6 : decode prog_2_method_10_code 6 = .ok (.getfield 27, 3) := by decide +kernel
theorem d_X0_pearls_9 : decode prog_2_method_10_code 9 = .ok (.if_icmp .ge 18, 3) := by decide +kernel
theorem d_X0_pearls_12 : decode prog_2_method_10_code 12 = .ok (.iload_n 1, 1) := by decide +kernel
theorem d_X0_pearls_13 : decode prog_2_method_10_code 13 = .ok (.aload_n 0, 1) := by decide +kernel
theorem d_X0_pearls_14 : decode prog_2_method_10_code 14 = .ok (.getfield 24, 3) := by decide +kernel
theorem d_X0_pearls_17 : decode prog_2_method_10_code 17 = .ok (.iload_n 2, 1) := by decide +kernel
theorem d_X0_pearls_18 : decode prog_2_method_10_code 18 = .ok (.iaload, 1) := by decide +kernel
theorem d_X0_pearls_19 : decode prog_2_method_10_code 19 = .ok (.iadd, 1) := by decide +kernel
theorem d_X0_pearls_20 : decode prog_2_method_10_code 20 = .ok (.istore_n 1, 1) := by decide +kernel
theorem d_X0_pearls_21 : decode prog_2_method_10_code 21 = .ok (.iinc 2 1, 3) := by decide +kernel
theorem d_X0_pearls_24 : decode prog_2_method_10_code 24 = .ok (.goto (-20), 3) := by decide +kernel
theorem d_X0_pearls_27 : decode prog_2_method_10_code 27 = .ok (.iload_n 1, 1) := by decide +kernel
theorem d_X0_pearls_28 : decode prog_2_method_10_code 28 = .ok (.ireturn, 1) := by decide +kernel
def f_X0_pearls_s4 (b : Nat) (χ : St) (x1 : Int32) (x2 : Int32) : Option ((Int32 × Int32) ⊕ (Int32)) := (if (cF χ b 5) ≤ x2 then some (.inr x1) else gd (inb x2 8) (some (.inl ((x1 + (cA χ (b + 5) x2.toNatClampNeg)), (x2 + (1 : Int32))))))
def f_X0_pearls (χ : St) (b : Nat) : Option (Int32) := (iter (fun z => f_X0_pearls_s4 b χ z.1 z.2) FU ((0 : Int32), (0 : Int32))).bind (fun z2 => some z2)
theorem c_X0_pearls {l : Launch} {G : gT} {χ σ : St} {b : Nat} (hf : FW G) (hb_b : isBed b = true) {q : Int32} (h : f_X0_pearls χ b = some q) : Ct l G yX0_pearls prog_2_method_10_code 3 (some .int) 0 0 [.ref (ga G b)] χ σ (some (.int q)) χ σ := by
  obtain ⟨ob0_b, ob1_b, ob2_b, ob3_b, ob4_b, ob5_b, lb_b, -, -⟩ := bed_at hf hb_b
  have lb0_b : b < 300 := by omega
  have lb1_b : b + 1 < 300 := by omega
  have lb2_b : b + 2 < 300 := by omega
  have lb3_b : b + 3 < 300 := by omega
  have lb4_b : b + 4 < 300 := by omega
  have lb5_b : b + 5 < 300 := by omega
  refine Ct.of (by decide) (Nat.le_of_ble_eq_true rfl) ?_
  intro p e s m args below meth c Q X hr hlk hQ
  have hx := X.1
  have hb := X.2.1
  have b4 : ∀ (x1 : Int32) (x2 : Int32) (o : (Int32 × Int32) ⊕ (Int32)), f_X0_pearls_s4 b χ x1 x2 = some o → Sum.elim (fun z : Int32 × Int32 => Wat p l e (rmk 0 0) s m args below meth c Q G 3 4 [] [(1, .int z.1), (2, .int z.2), (0, .ref (ga G b))] χ σ) (fun z : Int32 => Wat p l e (rmk 0 0) s m args below meth c Q G 3 27 [] [(1, .int z)] χ σ) o → Wat p l e (rmk 0 0) s m args below meth c Q G 3 4 [] [(1, .int x1), (2, .int x2), (0, .ref (ga G b))] χ σ := by
    intro x1 x2 o h hk H locs ls hw hl
    unfold f_X0_pearls_s4 at h
    refine lv_iload_n hx hb d_X0_pearls_4 rfl (lv_at hl 1 rfl) ?_
    refine lv_aload_n hx hb d_X0_pearls_5 rfl (lv_at hl 2 rfl) ?_
    refine r_geti (j := 5) X hw ct0 ob0_b lb0_b rfl (Nat.le_of_ble_eq_true rfl) wd_91 d_X0_pearls_6 ?_
    refine lv_icmp_ge (tgt := 27) hx hb d_X0_pearls_9 (by decide) (fun hc => ?_) (fun hc => ?_)
    · have h := ite_t h hc
      obtain rfl := Option.some.inj h
      dsimp only [Sum.elim_inr] at hk
      exact hk _ _ _ hw (lv_sub hl [0] rfl)
    · have h := ite_f h hc
      refine lv_iload_n hx hb d_X0_pearls_12 rfl (lv_at hl 0 rfl) ?_
      refine lv_aload_n hx hb d_X0_pearls_13 rfl (lv_at hl 2 rfl) ?_
      refine r_getr (j := 4) X hw ct0 ob0_b rfl (Nat.le_of_ble_eq_true rfl) (q := (b + 5)) (rt_bed hb_b) wd_86 d_X0_pearls_14 ?_
      refine lv_iload_n hx hb d_X0_pearls_17 rfl (lv_at hl 1 rfl) ?_
      obtain ⟨hi1, h⟩ := gd_some h
      refine r_iald X hw ob5_b lb5_b hi1 d_X0_pearls_18 ?_
      refine lv_iadd hx hb d_X0_pearls_19 ?_
      refine lv_istore_n (lv' := [(1, .int (x1 + (cA χ (b + 5) x2.toNatClampNeg))), (2, .int x2), (0, .ref (ga G b))]) hx hb d_X0_pearls_20 rfl hl (Nat.le_of_ble_eq_true rfl) rfl (fun ls hl => ?_)
      refine lv_iinc (v := (x2 + (1 : Int32))) (k := 1) (lv' := [(2, .int (x2 + (1 : Int32))), (1, .int (x1 + (cA χ (b + 5) x2.toNatClampNeg))), (0, .ref (ga G b))]) hx hb d_X0_pearls_21 hl rfl (by rfl) (Nat.le_of_ble_eq_true rfl) rfl (fun ls hl => ?_)
      refine lv_goto (tgt := 4) hx hb d_X0_pearls_24 (by decide) ?_
      obtain rfl := Option.some.inj h
      dsimp only [Sum.elim_inl] at hk
      exact hk _ _ _ hw (lv_sub hl [1, 0, 2] rfl)
  intro H locs ls hw hl
  have hl : lv_has ls 3 [(0, .ref (ga G b))] := hl
  unfold f_X0_pearls at h
  refine lv_iconst (v := (0 : Int32)) hx hb d_X0_pearls_0 (by decide) ?_
  refine lv_istore_n (lv' := [(1, .int (0 : Int32)), (0, .ref (ga G b))]) hx hb d_X0_pearls_1 rfl hl (Nat.le_of_ble_eq_true rfl) rfl (fun ls hl => ?_)
  refine lv_iconst (v := (0 : Int32)) hx hb d_X0_pearls_2 (by decide) ?_
  refine lv_istore_n (lv' := [(2, .int (0 : Int32)), (1, .int (0 : Int32)), (0, .ref (ga G b))]) hx hb d_X0_pearls_3 rfl hl (Nat.le_of_ble_eq_true rfl) rfl (fun ls hl => ?_)
  obtain ⟨z2, e3, h⟩ := bd_some h
  refine iter_w (Wh := fun z : Int32 × Int32 => Wat p l e (rmk 0 0) s m args below meth c Q G 3 4 [] [(1, .int z.1), (2, .int z.2), (0, .ref (ga G b))] χ σ) (K := fun z : Int32 => Wat p l e (rmk 0 0) s m args below meth c Q G 3 27 [] [(1, .int z)] χ σ) (fun z o h1 h2 => b4 z.1 z.2 o h1 h2) FU _ _ e3 ?_ _ _ _ hw (lv_sub hl [1, 0, 2] rfl)
  intro H locs ls hw hl
  refine lv_iload_n hx hb d_X0_pearls_27 rfl (lv_at hl 0 rfl) ?_
  obtain rfl := Option.some.inj h
  subst hQ
  exact r_iret X hr hlk hw d_X0_pearls_28
abbrev yX0_fears : MethodName := ⟨"OysterBeds$Bed", "fears", "()I"⟩
theorem mwX0_fears : MW yX0_fears prog_2_method_11_code 3 (some .int) 0 := ⟨wd_376, wd_4, by decide +kernel⟩
theorem d_X0_fears_0 : decode prog_2_method_11_code 0 = .ok (.iconst 0, 1) := by decide +kernel
theorem d_X0_fears_1 : decode prog_2_method_11_code 1 = .ok (.istore_n 1, 1) := by decide +kernel
theorem d_X0_fears_2 : decode prog_2_method_11_code 2 = .ok (.iconst 0, 1) := by decide +kernel
theorem d_X0_fears_3 : decode prog_2_method_11_code 3 = .ok (.istore_n 2, 1) := by decide +kernel
theorem d_X0_fears_4 : decode prog_2_method_11_code 4 = .ok (.iload_n 2, 1) := by decide +kernel
theorem d_X0_fears_5 : decode prog_2_method_11_code 5 = .ok (.aload_n 0, 1) := by decide +kernel
theorem d_X0_fears_6 : decode prog_2_method_11_code 6 = .ok (.getfield 27, 3) := by decide +kernel
theorem d_X0_fears_9 : decode prog_2_method_11_code 9 = .ok (.if_icmp .ge 18, 3) := by decide +kernel
theorem d_X0_fears_12 : decode prog_2_method_11_code 12 = .ok (.iload_n 1, 1) := by decide +kernel
theorem d_X0_fears_13 : decode prog_2_method_11_code 13 = .ok (.aload_n 0, 1) := by decide +kernel
theorem d_X0_fears_14 : decode prog_2_method_11_code 14 = .ok (.getfield 15, 3) := by decide +kernel
theorem d_X0_fears_17 : decode prog_2_method_11_code 17 = .ok (.iload_n 2, 1) := by decide +kernel
theorem d_X0_fears_18 : decode prog_2_method_11_code 18 = .ok (.iaload, 1) := by decide +kernel
theorem d_X0_fears_19 : decode prog_2_method_11_code 19 = .ok (.iadd, 1) := by decide +kernel
theorem d_X0_fears_20 : decode prog_2_method_11_code 20 = .ok (.istore_n 1, 1) := by decide +kernel
theorem d_X0_fears_21 : decode prog_2_method_11_code 21 = .ok (.iinc 2 1, 3) := by decide +kernel
theorem d_X0_fears_24 : decode prog_2_method_11_code 24 = .ok (.goto (-20), 3) := by decide +kernel
theorem d_X0_fears_27 : decode prog_2_method_11_code 27 = .ok (.iload_n 1, 1) := by decide +kernel
theorem d_X0_fears_28 : decode prog_2_method_11_code 28 = .ok (.ireturn, 1) := by decide +kernel
def f_X0_fears_s4 (b : Nat) (χ : St) (x1 : Int32) (x2 : Int32) : Option ((Int32 × Int32) ⊕ (Int32)) := (if (cF χ b 5) ≤ x2 then some (.inr x1) else gd (inb x2 8) (some (.inl ((x1 + (cA χ (b + 2) x2.toNatClampNeg)), (x2 + (1 : Int32))))))
def f_X0_fears (χ : St) (b : Nat) : Option (Int32) := (iter (fun z => f_X0_fears_s4 b χ z.1 z.2) FU ((0 : Int32), (0 : Int32))).bind (fun z2 => some z2)
theorem c_X0_fears {l : Launch} {G : gT} {χ σ : St} {b : Nat} (hf : FW G) (hb_b : isBed b = true) {q : Int32} (h : f_X0_fears χ b = some q) : Ct l G yX0_fears prog_2_method_11_code 3 (some .int) 0 0 [.ref (ga G b)] χ σ (some (.int q)) χ σ := by
  obtain ⟨ob0_b, ob1_b, ob2_b, ob3_b, ob4_b, ob5_b, lb_b, -, -⟩ := bed_at hf hb_b
  have lb0_b : b < 300 := by omega
  have lb1_b : b + 1 < 300 := by omega
  have lb2_b : b + 2 < 300 := by omega
  have lb3_b : b + 3 < 300 := by omega
  have lb4_b : b + 4 < 300 := by omega
  have lb5_b : b + 5 < 300 := by omega
  refine Ct.of (by decide) (Nat.le_of_ble_eq_true rfl) ?_
  intro p e s m args below meth c Q X hr hlk hQ
  have hx := X.1
  have hb := X.2.1
  have b4 : ∀ (x1 : Int32) (x2 : Int32) (o : (Int32 × Int32) ⊕ (Int32)), f_X0_fears_s4 b χ x1 x2 = some o → Sum.elim (fun z : Int32 × Int32 => Wat p l e (rmk 0 0) s m args below meth c Q G 3 4 [] [(1, .int z.1), (2, .int z.2), (0, .ref (ga G b))] χ σ) (fun z : Int32 => Wat p l e (rmk 0 0) s m args below meth c Q G 3 27 [] [(1, .int z)] χ σ) o → Wat p l e (rmk 0 0) s m args below meth c Q G 3 4 [] [(1, .int x1), (2, .int x2), (0, .ref (ga G b))] χ σ := by
    intro x1 x2 o h hk H locs ls hw hl
    unfold f_X0_fears_s4 at h
    refine lv_iload_n hx hb d_X0_fears_4 rfl (lv_at hl 1 rfl) ?_
    refine lv_aload_n hx hb d_X0_fears_5 rfl (lv_at hl 2 rfl) ?_
    refine r_geti (j := 5) X hw ct0 ob0_b lb0_b rfl (Nat.le_of_ble_eq_true rfl) wd_91 d_X0_fears_6 ?_
    refine lv_icmp_ge (tgt := 27) hx hb d_X0_fears_9 (by decide) (fun hc => ?_) (fun hc => ?_)
    · have h := ite_t h hc
      obtain rfl := Option.some.inj h
      dsimp only [Sum.elim_inr] at hk
      exact hk _ _ _ hw (lv_sub hl [0] rfl)
    · have h := ite_f h hc
      refine lv_iload_n hx hb d_X0_fears_12 rfl (lv_at hl 0 rfl) ?_
      refine lv_aload_n hx hb d_X0_fears_13 rfl (lv_at hl 2 rfl) ?_
      refine r_getr (j := 1) X hw ct0 ob0_b rfl (Nat.le_of_ble_eq_true rfl) (q := (b + 2)) (rt_bed hb_b) wd_74 d_X0_fears_14 ?_
      refine lv_iload_n hx hb d_X0_fears_17 rfl (lv_at hl 1 rfl) ?_
      obtain ⟨hi1, h⟩ := gd_some h
      refine r_iald X hw ob2_b lb2_b hi1 d_X0_fears_18 ?_
      refine lv_iadd hx hb d_X0_fears_19 ?_
      refine lv_istore_n (lv' := [(1, .int (x1 + (cA χ (b + 2) x2.toNatClampNeg))), (2, .int x2), (0, .ref (ga G b))]) hx hb d_X0_fears_20 rfl hl (Nat.le_of_ble_eq_true rfl) rfl (fun ls hl => ?_)
      refine lv_iinc (v := (x2 + (1 : Int32))) (k := 1) (lv' := [(2, .int (x2 + (1 : Int32))), (1, .int (x1 + (cA χ (b + 2) x2.toNatClampNeg))), (0, .ref (ga G b))]) hx hb d_X0_fears_21 hl rfl (by rfl) (Nat.le_of_ble_eq_true rfl) rfl (fun ls hl => ?_)
      refine lv_goto (tgt := 4) hx hb d_X0_fears_24 (by decide) ?_
      obtain rfl := Option.some.inj h
      dsimp only [Sum.elim_inl] at hk
      exact hk _ _ _ hw (lv_sub hl [1, 0, 2] rfl)
  intro H locs ls hw hl
  have hl : lv_has ls 3 [(0, .ref (ga G b))] := hl
  unfold f_X0_fears at h
  refine lv_iconst (v := (0 : Int32)) hx hb d_X0_fears_0 (by decide) ?_
  refine lv_istore_n (lv' := [(1, .int (0 : Int32)), (0, .ref (ga G b))]) hx hb d_X0_fears_1 rfl hl (Nat.le_of_ble_eq_true rfl) rfl (fun ls hl => ?_)
  refine lv_iconst (v := (0 : Int32)) hx hb d_X0_fears_2 (by decide) ?_
  refine lv_istore_n (lv' := [(2, .int (0 : Int32)), (1, .int (0 : Int32)), (0, .ref (ga G b))]) hx hb d_X0_fears_3 rfl hl (Nat.le_of_ble_eq_true rfl) rfl (fun ls hl => ?_)
  obtain ⟨z2, e3, h⟩ := bd_some h
  refine iter_w (Wh := fun z : Int32 × Int32 => Wat p l e (rmk 0 0) s m args below meth c Q G 3 4 [] [(1, .int z.1), (2, .int z.2), (0, .ref (ga G b))] χ σ) (K := fun z : Int32 => Wat p l e (rmk 0 0) s m args below meth c Q G 3 27 [] [(1, .int z)] χ σ) (fun z o h1 h2 => b4 z.1 z.2 o h1 h2) FU _ _ e3 ?_ _ _ _ hw (lv_sub hl [1, 0, 2] rfl)
  intro H locs ls hw hl
  refine lv_iload_n hx hb d_X0_fears_27 rfl (lv_at hl 0 rfl) ?_
  obtain rfl := Option.some.inj h
  subst hQ
  exact r_iret X hr hlk hw d_X0_fears_28
abbrev yX0_likesOpen : MethodName := ⟨"OysterBeds$Bed", "likesOpen", "(I)I"⟩
theorem mwX0_likesOpen : MW yX0_likesOpen prog_2_method_12_code 4 (some .int) 1 := ⟨wd_415, wd_4, by decide +kernel⟩
theorem d_X0_likesOpen_0 : decode prog_2_method_12_code 0 = .ok (.iconst 0, 1) := by decide +kernel
theorem d_X0_likesOpen_1 : decode prog_2_method_12_code 1 = .ok (.istore_n 2, 1) := by decide +kernel
theorem d_X0_likesOpen_2 : decode prog_2_method_12_code 2 = .ok (.iconst 0, 1) := by decide +kernel
theorem d_X0_likesOpen_3 : decode prog_2_method_12_code 3 = .ok (.istore_n 3, 1) := by decide +kernel
theorem d_X0_likesOpen_4 : decode prog_2_method_12_code 4 = .ok (.iload_n 3, 1) := by decide +kernel
theorem d_X0_likesOpen_5 : decode prog_2_method_12_code 5 = .ok (.aload_n 0, 1) := by decide +kernel
theorem d_X0_likesOpen_6 : decode prog_2_method_12_code 6 = .ok (.getfield 27, 3) := by decide +kernel
theorem d_X0_likesOpen_9 : decode prog_2_method_12_code 9 = .ok (.if_icmp .ge 41, 3) := by decide +kernel
theorem d_X0_likesOpen_12 : decode prog_2_method_12_code 12 = .ok (.iload_n 3, 1) := by decide +kernel
theorem d_X0_likesOpen_13 : decode prog_2_method_12_code 13 = .ok (.iload_n 1, 1) := by decide +kernel
theorem d_X0_likesOpen_14 : decode prog_2_method_12_code 14 = .ok (.if_icmp .eq 30, 3) := by decide +kernel
theorem d_X0_likesOpen_17 : decode prog_2_method_12_code 17 = .ok (.aload_n 0, 1) := by decide +kernel
theorem d_X0_likesOpen_18 : decode prog_2_method_12_code 18 = .ok (.getfield 9, 3) := by decide +kernel
theorem d_X0_likesOpen_21 : decode prog_2_method_12_code 21 = .ok (.iload_n 3, 1) := by decide +kernel
theorem d_X0_likesOpen_22 : decode prog_2_method_12_code 22 = .ok (.iaload, 1) := by decide +kernel
theorem d_X0_likesOpen_23 : decode prog_2_method_12_code 23 = .ok (.aload_n 0, 1) := by decide +kernel
theorem d_X0_likesOpen_24 : decode prog_2_method_12_code 24 = .ok (.getfield 9, 3) := by decide +kernel
theorem d_X0_likesOpen_27 : decode prog_2_method_12_code 27 = .ok (.iload_n 1, 1) := by decide +kernel
theorem d_X0_likesOpen_28 : decode prog_2_method_12_code 28 = .ok (.iaload, 1) := by decide +kernel
theorem d_X0_likesOpen_29 : decode prog_2_method_12_code 29 = .ok (.if_icmp .ne 15, 3) := by decide +kernel
theorem d_X0_likesOpen_32 : decode prog_2_method_12_code 32 = .ok (.aload_n 0, 1) := by decide +kernel
theorem d_X0_likesOpen_33 : decode prog_2_method_12_code 33 = .ok (.getfield 21, 3) := by decide +kernel
theorem d_X0_likesOpen_36 : decode prog_2_method_12_code 36 = .ok (.iload_n 3, 1) := by decide +kernel
theorem d_X0_likesOpen_37 : decode prog_2_method_12_code 37 = .ok (.iaload, 1) := by decide +kernel
theorem d_X0_likesOpen_38 : decode prog_2_method_12_code 38 = .ok (.ifCond .ne 6, 3) := by decide +kernel
theorem d_X0_likesOpen_41 : decode prog_2_method_12_code 41 = .ok (.iinc 2 1, 3) := by decide +kernel
theorem d_X0_likesOpen_44 : decode prog_2_method_12_code 44 = .ok (.iinc 3 1, 3) := by decide +kernel
theorem d_X0_likesOpen_47 : decode prog_2_method_12_code 47 = .ok (.goto (-43), 3) := by decide +kernel
theorem d_X0_likesOpen_50 : decode prog_2_method_12_code 50 = .ok (.iload_n 2, 1) := by decide +kernel
theorem d_X0_likesOpen_51 : decode prog_2_method_12_code 51 = .ok (.ireturn, 1) := by decide +kernel
def f_X0_likesOpen_j44_4 (b : Nat) (χ : St) (x1 : Int32) (x2 : Int32) (x3 : Int32) : Option ((Int32 × Int32) ⊕ (Int32)) := some (.inl (x2, (x3 + (1 : Int32))))
def f_X0_likesOpen_s4 (b : Nat) (χ : St) (y1 : Int32) (x2 : Int32) (x3 : Int32) : Option ((Int32 × Int32) ⊕ (Int32)) := (if (cF χ b 5) ≤ x3 then some (.inr x2) else (if x3 = y1 then f_X0_likesOpen_j44_4 b χ y1 x2 x3 else gd (inb x3 8) (gd (inb y1 8) ((if (cA χ (b + 1) x3.toNatClampNeg) = (cA χ (b + 1) y1.toNatClampNeg) then gd (inb x3 8) (f_X0_likesOpen_j44_4 b χ y1 (if (cA χ (b + 4) x3.toNatClampNeg) = 0 then (x2 + (1 : Int32)) else x2) x3) else f_X0_likesOpen_j44_4 b χ y1 x2 x3)))))
def f_X0_likesOpen (χ : St) (b : Nat) (a1 : Int32) : Option (Int32) := (iter (fun z => f_X0_likesOpen_s4 b χ a1 z.1 z.2) FU ((0 : Int32), (0 : Int32))).bind (fun z4 => some z4)
theorem c_X0_likesOpen {l : Launch} {G : gT} {χ σ : St} {b : Nat} {a1 : Int32} (hf : FW G) (hb_b : isBed b = true) {q : Int32} (h : f_X0_likesOpen χ b a1 = some q) : Ct l G yX0_likesOpen prog_2_method_12_code 4 (some .int) 0 0 [.ref (ga G b), .int a1] χ σ (some (.int q)) χ σ := by
  obtain ⟨ob0_b, ob1_b, ob2_b, ob3_b, ob4_b, ob5_b, lb_b, -, -⟩ := bed_at hf hb_b
  have lb0_b : b < 300 := by omega
  have lb1_b : b + 1 < 300 := by omega
  have lb2_b : b + 2 < 300 := by omega
  have lb3_b : b + 3 < 300 := by omega
  have lb4_b : b + 4 < 300 := by omega
  have lb5_b : b + 5 < 300 := by omega
  refine Ct.of (by decide) (Nat.le_of_ble_eq_true rfl) ?_
  intro p e s m args below meth c Q X hr hlk hQ
  have hx := X.1
  have hb := X.2.1
  have j44_4 : ∀ (x1 : Int32) (x2 : Int32) (x3 : Int32) (o : (Int32 × Int32) ⊕ (Int32)), f_X0_likesOpen_j44_4 b χ x1 x2 x3 = some o → Sum.elim (fun z : Int32 × Int32 => Wat p l e (rmk 0 0) s m args below meth c Q G 4 4 [] [(2, .int z.1), (3, .int z.2), (0, .ref (ga G b)), (1, .int x1)] χ σ) (fun z : Int32 => Wat p l e (rmk 0 0) s m args below meth c Q G 4 50 [] [(2, .int z)] χ σ) o → Wat p l e (rmk 0 0) s m args below meth c Q G 4 44 [] [(0, .ref (ga G b)), (1, .int x1), (2, .int x2), (3, .int x3)] χ σ := by
    intro x1 x2 x3 o h hk H locs ls hw hl
    unfold f_X0_likesOpen_j44_4 at h
    refine lv_iinc (v := (x3 + (1 : Int32))) (k := 3) (lv' := [(3, .int (x3 + (1 : Int32))), (0, .ref (ga G b)), (1, .int x1), (2, .int x2)]) hx hb d_X0_likesOpen_44 hl rfl (by rfl) (Nat.le_of_ble_eq_true rfl) rfl (fun ls hl => ?_)
    refine lv_goto (tgt := 4) hx hb d_X0_likesOpen_47 (by decide) ?_
    obtain rfl := Option.some.inj h
    dsimp only [Sum.elim_inl] at hk
    exact hk _ _ _ hw (lv_sub hl [3, 0, 1, 2] rfl)
  have b4 : ∀ (y1 : Int32) (x2 : Int32) (x3 : Int32) (o : (Int32 × Int32) ⊕ (Int32)), f_X0_likesOpen_s4 b χ y1 x2 x3 = some o → Sum.elim (fun z : Int32 × Int32 => Wat p l e (rmk 0 0) s m args below meth c Q G 4 4 [] [(2, .int z.1), (3, .int z.2), (0, .ref (ga G b)), (1, .int y1)] χ σ) (fun z : Int32 => Wat p l e (rmk 0 0) s m args below meth c Q G 4 50 [] [(2, .int z)] χ σ) o → Wat p l e (rmk 0 0) s m args below meth c Q G 4 4 [] [(2, .int x2), (3, .int x3), (0, .ref (ga G b)), (1, .int y1)] χ σ := by
    intro y1 x2 x3 o h hk H locs ls hw hl
    unfold f_X0_likesOpen_s4 at h
    refine lv_iload_n hx hb d_X0_likesOpen_4 rfl (lv_at hl 1 rfl) ?_
    refine lv_aload_n hx hb d_X0_likesOpen_5 rfl (lv_at hl 2 rfl) ?_
    refine r_geti (j := 5) X hw ct0 ob0_b lb0_b rfl (Nat.le_of_ble_eq_true rfl) wd_91 d_X0_likesOpen_6 ?_
    refine lv_icmp_ge (tgt := 50) hx hb d_X0_likesOpen_9 (by decide) (fun hc => ?_) (fun hc => ?_)
    · have h := ite_t h hc
      obtain rfl := Option.some.inj h
      dsimp only [Sum.elim_inr] at hk
      exact hk _ _ _ hw (lv_sub hl [0] rfl)
    · have h := ite_f h hc
      refine lv_iload_n hx hb d_X0_likesOpen_12 rfl (lv_at hl 1 rfl) ?_
      refine lv_iload_n hx hb d_X0_likesOpen_13 rfl (lv_at hl 3 rfl) ?_
      refine lv_icmp_eq (tgt := 44) hx hb d_X0_likesOpen_14 (by decide) (fun hc => ?_) (fun hc => ?_)
      · have h := ite_t h hc
        exact j44_4 y1 x2 x3 o h hk _ _ _ hw (lv_sub hl [2, 3, 0, 1] rfl)
      · have h := ite_f h hc
        refine lv_aload_n hx hb d_X0_likesOpen_17 rfl (lv_at hl 2 rfl) ?_
        refine r_getr (j := 0) X hw ct0 ob0_b rfl (Nat.le_of_ble_eq_true rfl) (q := (b + 1)) (rt_bed hb_b) wd_70 d_X0_likesOpen_18 ?_
        refine lv_iload_n hx hb d_X0_likesOpen_21 rfl (lv_at hl 1 rfl) ?_
        obtain ⟨hi1, h⟩ := gd_some h
        refine r_iald X hw ob1_b lb1_b hi1 d_X0_likesOpen_22 ?_
        refine lv_aload_n hx hb d_X0_likesOpen_23 rfl (lv_at hl 2 rfl) ?_
        refine r_getr (j := 0) X hw ct0 ob0_b rfl (Nat.le_of_ble_eq_true rfl) (q := (b + 1)) (rt_bed hb_b) wd_70 d_X0_likesOpen_24 ?_
        refine lv_iload_n hx hb d_X0_likesOpen_27 rfl (lv_at hl 3 rfl) ?_
        obtain ⟨hi2, h⟩ := gd_some h
        refine r_iald X hw ob1_b lb1_b hi2 d_X0_likesOpen_28 ?_
        refine lv_icmp_ne (tgt := 44) hx hb d_X0_likesOpen_29 (by decide) (fun hc => ?_) (fun hc => ?_)
        · have h := ite_f h hc
          exact j44_4 y1 x2 x3 o h hk _ _ _ hw (lv_sub hl [2, 3, 0, 1] rfl)
        · have h := ite_t h hc
          refine lv_aload_n hx hb d_X0_likesOpen_32 rfl (lv_at hl 2 rfl) ?_
          refine r_getr (j := 3) X hw ct0 ob0_b rfl (Nat.le_of_ble_eq_true rfl) (q := (b + 4)) (rt_bed hb_b) wd_83 d_X0_likesOpen_33 ?_
          refine lv_iload_n hx hb d_X0_likesOpen_36 rfl (lv_at hl 1 rfl) ?_
          obtain ⟨hi3, h⟩ := gd_some h
          refine r_iald X hw ob4_b lb4_b hi3 d_X0_likesOpen_37 ?_
          refine lv_if_ne (tgt := 44) hx hb d_X0_likesOpen_38 (by decide) (fun hc => ?_) (fun hc => ?_)
          · simp only [if_neg hc] at h
            exact j44_4 y1 x2 x3 o h hk _ _ _ hw (lv_sub hl [2, 3, 0, 1] rfl)
          · simp only [if_pos hc] at h
            refine lv_iinc (v := (x2 + (1 : Int32))) (k := 0) (lv' := [(2, .int (x2 + (1 : Int32))), (3, .int x3), (0, .ref (ga G b)), (1, .int y1)]) hx hb d_X0_likesOpen_41 hl rfl (by rfl) (Nat.le_of_ble_eq_true rfl) rfl (fun ls hl => ?_)
            exact j44_4 y1 (x2 + (1 : Int32)) x3 o h hk _ _ _ hw (lv_sub hl [2, 3, 0, 1] rfl)
  intro H locs ls hw hl
  have hl : lv_has ls 4 [(0, .ref (ga G b)), (1, .int a1)] := hl
  unfold f_X0_likesOpen at h
  refine lv_iconst (v := (0 : Int32)) hx hb d_X0_likesOpen_0 (by decide) ?_
  refine lv_istore_n (lv' := [(2, .int (0 : Int32)), (0, .ref (ga G b)), (1, .int a1)]) hx hb d_X0_likesOpen_1 rfl hl (Nat.le_of_ble_eq_true rfl) rfl (fun ls hl => ?_)
  refine lv_iconst (v := (0 : Int32)) hx hb d_X0_likesOpen_2 (by decide) ?_
  refine lv_istore_n (lv' := [(3, .int (0 : Int32)), (2, .int (0 : Int32)), (0, .ref (ga G b)), (1, .int a1)]) hx hb d_X0_likesOpen_3 rfl hl (Nat.le_of_ble_eq_true rfl) rfl (fun ls hl => ?_)
  obtain ⟨z4, e5, h⟩ := bd_some h
  refine iter_w (Wh := fun z : Int32 × Int32 => Wat p l e (rmk 0 0) s m args below meth c Q G 4 4 [] [(2, .int z.1), (3, .int z.2), (0, .ref (ga G b)), (1, .int a1)] χ σ) (K := fun z : Int32 => Wat p l e (rmk 0 0) s m args below meth c Q G 4 50 [] [(2, .int z)] χ σ) (fun z o h1 h2 => b4 a1 z.1 z.2 o h1 h2) FU _ _ e5 ?_ _ _ _ hw (lv_sub hl [1, 0, 2, 3] rfl)
  intro H locs ls hw hl
  refine lv_iload_n hx hb d_X0_likesOpen_50 rfl (lv_at hl 0 rfl) ?_
  obtain rfl := Option.some.inj h
  subst hQ
  exact r_iret X hr hlk hw d_X0_likesOpen_51
abbrev yX0_takeFears : MethodName := ⟨"OysterBeds$Bed", "takeFears", "(IIII)V"⟩
theorem mwX0_takeFears : MW yX0_takeFears prog_2_method_13_code 7 none 4 := ⟨wd_370, wd_4, by decide +kernel⟩
theorem d_X0_takeFears_0 : decode prog_2_method_13_code 0 = .ok (.iconst 0, 1) := by decide +kernel
theorem d_X0_takeFears_1 : decode prog_2_method_13_code 1 = .ok (.istore 5, 2) := by decide +kernel
theorem d_X0_takeFears_3 : decode prog_2_method_13_code 3 = .ok (.iload 5, 2) := by decide +kernel
theorem d_X0_takeFears_5 : decode prog_2_method_13_code 5 = .ok (.aload_n 0, 1) := by decide +kernel
theorem d_X0_takeFears_6 : decode prog_2_method_13_code 6 = .ok (.getfield 27, 3) := by decide +kernel
theorem d_X0_takeFears_9 : decode prog_2_method_13_code 9 = .ok (.if_icmp .ge 68, 3) := by decide +kernel
theorem d_X0_takeFears_12 : decode prog_2_method_13_code 12 = .ok (.iload 5, 2) := by decide +kernel
theorem d_X0_takeFears_14 : decode prog_2_method_13_code 14 = .ok (.iload_n 2, 1) := by decide +kernel
theorem d_X0_takeFears_15 : decode prog_2_method_13_code 15 = .ok (.if_icmp .ge 13, 3) := by decide +kernel
theorem d_X0_takeFears_18 : decode prog_2_method_13_code 18 = .ok (.iload_n 3, 1) := by decide +kernel
theorem d_X0_takeFears_19 : decode prog_2_method_13_code 19 = .ok (.iload 5, 2) := by decide +kernel
theorem d_X0_takeFears_21 : decode prog_2_method_13_code 21 = .ok (.iload 4, 2) := by decide +kernel
theorem d_X0_takeFears_23 : decode prog_2_method_13_code 23 = .ok (.imul, 1) := by decide +kernel
theorem d_X0_takeFears_24 : decode prog_2_method_13_code 24 = .ok (.iadd, 1) := by decide +kernel
theorem d_X0_takeFears_25 : decode prog_2_method_13_code 25 = .ok (.goto 4, 3) := by decide +kernel
theorem d_X0_takeFears_28 : decode prog_2_method_13_code 28 = .ok (.iconst 0, 1) := by decide +kernel
theorem d_X0_takeFears_29 : decode prog_2_method_13_code 29 = .ok (.istore 6, 2) := by decide +kernel
theorem d_X0_takeFears_31 : decode prog_2_method_13_code 31 = .ok (.iload_n 1, 1) := by decide +kernel
theorem d_X0_takeFears_32 : decode prog_2_method_13_code 32 = .ok (.ifCond .ne 11, 3) := by decide +kernel
theorem d_X0_takeFears_35 : decode prog_2_method_13_code 35 = .ok (.iload 6, 2) := by decide +kernel
theorem d_X0_takeFears_37 : decode prog_2_method_13_code 37 = .ok (.i2b, 1) := by decide +kernel
theorem d_X0_takeFears_38 : decode prog_2_method_13_code 38 = .ok (.istore 6, 2) := by decide +kernel
theorem d_X0_takeFears_40 : decode prog_2_method_13_code 40 = .ok (.goto 13, 3) := by decide +kernel
theorem d_X0_takeFears_43 : decode prog_2_method_13_code 43 = .ok (.iload_n 1, 1) := by decide +kernel
theorem d_X0_takeFears_44 : decode prog_2_method_13_code 44 = .ok (.iconst 1, 1) := by decide +kernel
theorem d_X0_takeFears_45 : decode prog_2_method_13_code 45 = .ok (.if_icmp .ne 8, 3) := by decide +kernel
theorem d_X0_takeFears_48 : decode prog_2_method_13_code 48 = .ok (.iload 6, 2) := by decide +kernel
theorem d_X0_takeFears_50 : decode prog_2_method_13_code 50 = .ok (.i2s, 1) := by decide +kernel
theorem d_X0_takeFears_51 : decode prog_2_method_13_code 51 = .ok (.istore 6, 2) := by decide +kernel
theorem d_X0_takeFears_53 : decode prog_2_method_13_code 53 = .ok (.aload_n 0, 1) := by decide +kernel
theorem d_X0_takeFears_54 : decode prog_2_method_13_code 54 = .ok (.getfield 15, 3) := by decide +kernel
theorem d_X0_takeFears_57 : decode prog_2_method_13_code 57 = .ok (.iload 5, 2) := by decide +kernel
theorem d_X0_takeFears_59 : decode prog_2_method_13_code 59 = .ok (.iconst 0, 1) := by decide +kernel
theorem d_X0_takeFears_60 : decode prog_2_method_13_code 60 = .ok (.bipush 9, 2) := by decide +kernel
theorem d_X0_takeFears_62 : decode prog_2_method_13_code 62 = .ok (.iload 6, 2) := by decide +kernel
theorem d_X0_takeFears_64 : decode prog_2_method_13_code 64 = .ok (.invokestatic 41, 3) := by decide +kernel
theorem d_X0_takeFears_67 : decode prog_2_method_13_code 67 = .ok (.invokestatic 47, 3) := by decide +kernel
theorem d_X0_takeFears_70 : decode prog_2_method_13_code 70 = .ok (.iastore, 1) := by decide +kernel
theorem d_X0_takeFears_71 : decode prog_2_method_13_code 71 = .ok (.iinc 5 1, 3) := by decide +kernel
theorem d_X0_takeFears_74 : decode prog_2_method_13_code 74 = .ok (.goto (-71), 3) := by decide +kernel
theorem d_X0_takeFears_77 : decode prog_2_method_13_code 77 = .ok (.return_, 1) := by decide +kernel
def f_X0_takeFears_j53_3 (b : Nat) (τ : St) (x1 : Int32) (x2 : Int32) (x3 : Int32) (x4 : Int32) (x5 : Int32) (x6 : Int32) : Option ((Int32 × St) ⊕ (St)) := gd (inb x5 8) (some (.inl ((x5 + (1 : Int32)), (sA τ (b + 2) x5.toNatClampNeg (if (0 : Int32) < (if x6 < (9 : Int32) then x6 else (9 : Int32)) then (if x6 < (9 : Int32) then x6 else (9 : Int32)) else (0 : Int32))))))
def f_X0_takeFears_j29_3 (b : Nat) (τ : St) (x1 : Int32) (x2 : Int32) (x3 : Int32) (x4 : Int32) (x5 : Int32) (s0 : Int32) : Option ((Int32 × St) ⊕ (St)) := f_X0_takeFears_j53_3 b τ x1 x2 x3 x4 x5 (if x1 = 0 then s0.toInt8.toInt32 else (if x1 = (1 : Int32) then s0.toInt16.toInt32 else s0))
def f_X0_takeFears_s3 (b : Nat) (τ : St) (y1 : Int32) (y2 : Int32) (y3 : Int32) (y4 : Int32) (x5 : Int32) : Option ((Int32 × St) ⊕ (St)) := (if (cF τ b 5) ≤ x5 then some (.inr τ) else f_X0_takeFears_j29_3 b τ y1 y2 y3 y4 x5 (if y2 ≤ x5 then (0 : Int32) else (y3 + (x5 * y4))))
def f_X0_takeFears (χ : St) (b : Nat) (a1 : Int32) (a2 : Int32) (a3 : Int32) (a4 : Int32) : Option (St) := (iter (fun z => f_X0_takeFears_s3 b z.2 a1 a2 a3 a4 z.1) FU ((0 : Int32), χ)).bind (fun z2 => some z2)
theorem c_X0_takeFears {l : Launch} {G : gT} {χ σ : St} {b : Nat} {a1 : Int32} {a2 : Int32} {a3 : Int32} {a4 : Int32} (hf : FW G) (hb_b : isBed b = true) {q : St} (h : f_X0_takeFears χ b a1 a2 a3 a4 = some q) : Ct l G yX0_takeFears prog_2_method_13_code 7 none 1 21 [.ref (ga G b), .int a1, .int a2, .int a3, .int a4] χ σ (none) q σ := by
  obtain ⟨ob0_b, ob1_b, ob2_b, ob3_b, ob4_b, ob5_b, lb_b, -, -⟩ := bed_at hf hb_b
  have lb0_b : b < 300 := by omega
  have lb1_b : b + 1 < 300 := by omega
  have lb2_b : b + 2 < 300 := by omega
  have lb3_b : b + 3 < 300 := by omega
  have lb4_b : b + 4 < 300 := by omega
  have lb5_b : b + 5 < 300 := by omega
  refine Ct.of (by decide) (Nat.le_of_ble_eq_true rfl) ?_
  intro p e s m args below meth c Q X hr hlk hQ
  have hx := X.1
  have hb := X.2.1
  have j53_3 : ∀ (τ : St) (x1 : Int32) (x2 : Int32) (x3 : Int32) (x4 : Int32) (x5 : Int32) (x6 : Int32) (o : (Int32 × St) ⊕ (St)), f_X0_takeFears_j53_3 b τ x1 x2 x3 x4 x5 x6 = some o → Sum.elim (fun z : Int32 × St => Wat p l e (rmk 1 21) s m args below meth c Q G 7 3 [] [(5, .int z.1), (0, .ref (ga G b)), (1, .int x1), (2, .int x2), (3, .int x3), (4, .int x4)] z.2 σ) (fun z : St => Wat p l e (rmk 1 21) s m args below meth c Q G 7 77 [] [] z σ) o → Wat p l e (rmk 1 21) s m args below meth c Q G 7 53 [] [(0, .ref (ga G b)), (1, .int x1), (2, .int x2), (3, .int x3), (4, .int x4), (5, .int x5), (6, .int x6)] τ σ := by
    intro τ x1 x2 x3 x4 x5 x6 o h hk H locs ls hw hl
    unfold f_X0_takeFears_j53_3 at h
    refine lv_aload_n hx hb d_X0_takeFears_53 rfl (lv_at hl 0 rfl) ?_
    refine r_getr (j := 1) X hw ct0 ob0_b rfl (Nat.le_of_ble_eq_true rfl) (q := (b + 2)) (rt_bed hb_b) wd_74 d_X0_takeFears_54 ?_
    refine lv_iload hx hb d_X0_takeFears_57 (lv_at hl 5 rfl) ?_
    refine lv_iconst (v := (0 : Int32)) hx hb d_X0_takeFears_59 (by decide) ?_
    refine lv_bipush (v := (9 : Int32)) hx hb d_X0_takeFears_60 (by decide) ?_
    refine lv_iload hx hb d_X0_takeFears_62 (lv_at hl 6 rfl) ?_
    refine r_min X hl wd_371 ⟨Nat.le_of_ble_eq_true rfl, Nat.le_of_ble_eq_true rfl⟩ ⟨Nat.le_refl _, Nat.le_refl _⟩ d_X0_takeFears_64 ?_
    refine r_max X hl wd_372 ⟨Nat.le_of_ble_eq_true rfl, Nat.le_of_ble_eq_true rfl⟩ ⟨Nat.le_refl _, Nat.le_refl _⟩ d_X0_takeFears_67 ?_
    obtain ⟨hi1, h⟩ := gd_some h
    refine r_iast X hw ob2_b lb2_b hi1 d_X0_takeFears_70 (fun H locs hw => ?_)
    refine lv_iinc (v := (x5 + (1 : Int32))) (k := 5) (lv' := [(5, .int (x5 + (1 : Int32))), (0, .ref (ga G b)), (1, .int x1), (2, .int x2), (3, .int x3), (4, .int x4), (6, .int x6)]) hx hb d_X0_takeFears_71 hl rfl (by rfl) (Nat.le_of_ble_eq_true rfl) rfl (fun ls hl => ?_)
    refine lv_goto (tgt := 3) hx hb d_X0_takeFears_74 (by decide) ?_
    obtain rfl := Option.some.inj h
    dsimp only [Sum.elim_inl] at hk
    exact hk _ _ _ hw (lv_sub hl [0, 1, 2, 3, 4, 5] rfl)
  have j29_3 : ∀ (τ : St) (x1 : Int32) (x2 : Int32) (x3 : Int32) (x4 : Int32) (x5 : Int32) (s0 : Int32) (o : (Int32 × St) ⊕ (St)), f_X0_takeFears_j29_3 b τ x1 x2 x3 x4 x5 s0 = some o → Sum.elim (fun z : Int32 × St => Wat p l e (rmk 1 21) s m args below meth c Q G 7 3 [] [(5, .int z.1), (0, .ref (ga G b)), (1, .int x1), (2, .int x2), (3, .int x3), (4, .int x4)] z.2 σ) (fun z : St => Wat p l e (rmk 1 21) s m args below meth c Q G 7 77 [] [] z σ) o → Wat p l e (rmk 1 21) s m args below meth c Q G 7 29 [.int s0] [(0, .ref (ga G b)), (1, .int x1), (2, .int x2), (3, .int x3), (4, .int x4), (5, .int x5)] τ σ := by
    intro τ x1 x2 x3 x4 x5 s0 o h hk H locs ls hw hl
    unfold f_X0_takeFears_j29_3 at h
    refine lv_istore (lv' := [(6, .int s0), (0, .ref (ga G b)), (1, .int x1), (2, .int x2), (3, .int x3), (4, .int x4), (5, .int x5)]) hx hb d_X0_takeFears_29 hl (Nat.le_of_ble_eq_true rfl) rfl (fun ls hl => ?_)
    refine lv_iload_n hx hb d_X0_takeFears_31 rfl (lv_at hl 2 rfl) ?_
    refine lv_if_ne (tgt := 43) hx hb d_X0_takeFears_32 (by decide) (fun hc => ?_) (fun hc => ?_)
    · simp only [if_neg hc] at h
      refine lv_iload_n hx hb d_X0_takeFears_43 rfl (lv_at hl 2 rfl) ?_
      refine lv_iconst (v := (1 : Int32)) hx hb d_X0_takeFears_44 (by decide) ?_
      refine lv_icmp_ne (tgt := 53) hx hb d_X0_takeFears_45 (by decide) (fun hc => ?_) (fun hc => ?_)
      · simp only [if_neg hc] at h
        exact j53_3 τ x1 x2 x3 x4 x5 s0 o h hk _ _ _ hw (lv_sub hl [1, 2, 3, 4, 5, 6, 0] rfl)
      · simp only [if_pos hc] at h
        refine lv_iload hx hb d_X0_takeFears_48 (lv_at hl 0 rfl) ?_
        refine lv_i2s hx hb d_X0_takeFears_50 rfl ?_
        refine lv_istore (lv' := [(6, .int s0.toInt16.toInt32), (0, .ref (ga G b)), (1, .int x1), (2, .int x2), (3, .int x3), (4, .int x4), (5, .int x5)]) hx hb d_X0_takeFears_51 hl (Nat.le_of_ble_eq_true rfl) rfl (fun ls hl => ?_)
        exact j53_3 τ x1 x2 x3 x4 x5 s0.toInt16.toInt32 o h hk _ _ _ hw (lv_sub hl [1, 2, 3, 4, 5, 6, 0] rfl)
    · simp only [if_pos hc] at h
      refine lv_iload hx hb d_X0_takeFears_35 (lv_at hl 0 rfl) ?_
      refine lv_i2b hx hb d_X0_takeFears_37 rfl ?_
      refine lv_istore (lv' := [(6, .int s0.toInt8.toInt32), (0, .ref (ga G b)), (1, .int x1), (2, .int x2), (3, .int x3), (4, .int x4), (5, .int x5)]) hx hb d_X0_takeFears_38 hl (Nat.le_of_ble_eq_true rfl) rfl (fun ls hl => ?_)
      refine lv_goto (tgt := 53) hx hb d_X0_takeFears_40 (by decide) ?_
      exact j53_3 τ x1 x2 x3 x4 x5 s0.toInt8.toInt32 o h hk _ _ _ hw (lv_sub hl [1, 2, 3, 4, 5, 6, 0] rfl)
  have b3 : ∀ (τ : St) (y1 : Int32) (y2 : Int32) (y3 : Int32) (y4 : Int32) (x5 : Int32) (o : (Int32 × St) ⊕ (St)), f_X0_takeFears_s3 b τ y1 y2 y3 y4 x5 = some o → Sum.elim (fun z : Int32 × St => Wat p l e (rmk 1 21) s m args below meth c Q G 7 3 [] [(5, .int z.1), (0, .ref (ga G b)), (1, .int y1), (2, .int y2), (3, .int y3), (4, .int y4)] z.2 σ) (fun z : St => Wat p l e (rmk 1 21) s m args below meth c Q G 7 77 [] [] z σ) o → Wat p l e (rmk 1 21) s m args below meth c Q G 7 3 [] [(5, .int x5), (0, .ref (ga G b)), (1, .int y1), (2, .int y2), (3, .int y3), (4, .int y4)] τ σ := by
    intro τ y1 y2 y3 y4 x5 o h hk H locs ls hw hl
    unfold f_X0_takeFears_s3 at h
    refine lv_iload hx hb d_X0_takeFears_3 (lv_at hl 0 rfl) ?_
    refine lv_aload_n hx hb d_X0_takeFears_5 rfl (lv_at hl 1 rfl) ?_
    refine r_geti (j := 5) X hw ct0 ob0_b lb0_b rfl (Nat.le_of_ble_eq_true rfl) wd_91 d_X0_takeFears_6 ?_
    refine lv_icmp_ge (tgt := 77) hx hb d_X0_takeFears_9 (by decide) (fun hc => ?_) (fun hc => ?_)
    · have h := ite_t h hc
      obtain rfl := Option.some.inj h
      dsimp only [Sum.elim_inr] at hk
      exact hk _ _ _ hw (lv_sub hl [] rfl)
    · have h := ite_f h hc
      refine lv_iload hx hb d_X0_takeFears_12 (lv_at hl 0 rfl) ?_
      refine lv_iload_n hx hb d_X0_takeFears_14 rfl (lv_at hl 3 rfl) ?_
      refine lv_icmp_ge (tgt := 28) hx hb d_X0_takeFears_15 (by decide) (fun hc => ?_) (fun hc => ?_)
      · simp only [if_pos hc] at h
        refine lv_iconst (v := (0 : Int32)) hx hb d_X0_takeFears_28 (by decide) ?_
        exact j29_3 τ y1 y2 y3 y4 x5 (0 : Int32) o h hk _ _ _ hw (lv_sub hl [1, 2, 3, 4, 5, 0] rfl)
      · simp only [if_neg hc] at h
        refine lv_iload_n hx hb d_X0_takeFears_18 rfl (lv_at hl 4 rfl) ?_
        refine lv_iload hx hb d_X0_takeFears_19 (lv_at hl 0 rfl) ?_
        refine lv_iload hx hb d_X0_takeFears_21 (lv_at hl 5 rfl) ?_
        refine lv_imul hx hb d_X0_takeFears_23 ?_
        refine lv_iadd hx hb d_X0_takeFears_24 ?_
        refine lv_goto (tgt := 29) hx hb d_X0_takeFears_25 (by decide) ?_
        exact j29_3 τ y1 y2 y3 y4 x5 (y3 + (x5 * y4)) o h hk _ _ _ hw (lv_sub hl [1, 2, 3, 4, 5, 0] rfl)
  intro H locs ls hw hl
  have hl : lv_has ls 7 [(0, .ref (ga G b)), (1, .int a1), (2, .int a2), (3, .int a3), (4, .int a4)] := hl
  unfold f_X0_takeFears at h
  refine lv_iconst (v := (0 : Int32)) hx hb d_X0_takeFears_0 (by decide) ?_
  refine lv_istore (lv' := [(5, .int (0 : Int32)), (0, .ref (ga G b)), (1, .int a1), (2, .int a2), (3, .int a3), (4, .int a4)]) hx hb d_X0_takeFears_1 hl (Nat.le_of_ble_eq_true rfl) rfl (fun ls hl => ?_)
  obtain ⟨z2, e3, h⟩ := bd_some h
  refine iter_w (Wh := fun z : Int32 × St => Wat p l e (rmk 1 21) s m args below meth c Q G 7 3 [] [(5, .int z.1), (0, .ref (ga G b)), (1, .int a1), (2, .int a2), (3, .int a3), (4, .int a4)] z.2 σ) (K := fun z : St => Wat p l e (rmk 1 21) s m args below meth c Q G 7 77 [] [] z σ) (fun z o h1 h2 => b3 z.2 a1 a2 a3 a4 z.1 o h1 h2) FU _ _ e3 ?_ _ _ _ hw (lv_sub hl [0, 1, 2, 3, 4, 5] rfl)
  intro H locs ls hw hl
  obtain rfl := Option.some.inj h
  subst hQ
  exact r_vret X hr hlk hw d_X0_takeFears_77
abbrev yX5_joined : MethodName := ⟨"OysterBeds$Law", "joined", "(III)I"⟩
theorem mwX5_joined : MW yX5_joined prog_7_method_17_code 3 (some .int) 3 := ⟨wd_418, wd_8, by decide +kernel⟩
theorem d_X5_joined_0 : decode prog_7_method_17_code 0 = .ok (.iload_n 0, 1) := by decide +kernel
theorem d_X5_joined_1 : decode prog_7_method_17_code 1 = .ok (.tableswitch 156 42 62 #[140, 132, 156, 136, 156, 144, 156, 156, 156, 156, 156, 156, 156, 156, 156, 156, 156, 156, 99, 121, 110], 99) := by decide +kernel
theorem d_X5_joined_100 : decode prog_7_method_17_code 100 = .ok (.iload_n 1, 1) := by decide +kernel
theorem d_X5_joined_101 : decode prog_7_method_17_code 101 = .ok (.iload_n 2, 1) := by decide +kernel
theorem d_X5_joined_102 : decode prog_7_method_17_code 102 = .ok (.if_icmp .ge 7, 3) := by decide +kernel
theorem d_X5_joined_105 : decode prog_7_method_17_code 105 = .ok (.iconst 1, 1) := by decide +kernel
theorem d_X5_joined_106 : decode prog_7_method_17_code 106 = .ok (.goto 4, 3) := by decide +kernel
theorem d_X5_joined_109 : decode prog_7_method_17_code 109 = .ok (.iconst 0, 1) := by decide +kernel
theorem d_X5_joined_110 : decode prog_7_method_17_code 110 = .ok (.ireturn, 1) := by decide +kernel
theorem d_X5_joined_111 : decode prog_7_method_17_code 111 = .ok (.iload_n 1, 1) := by decide +kernel
theorem d_X5_joined_112 : decode prog_7_method_17_code 112 = .ok (.iload_n 2, 1) := by decide +kernel
theorem d_X5_joined_113 : decode prog_7_method_17_code 113 = .ok (.if_icmp .le 7, 3) := by decide +kernel
theorem d_X5_joined_116 : decode prog_7_method_17_code 116 = .ok (.iconst 1, 1) := by decide +kernel
theorem d_X5_joined_117 : decode prog_7_method_17_code 117 = .ok (.goto 4, 3) := by decide +kernel
theorem d_X5_joined_120 : decode prog_7_method_17_code 120 = .ok (.iconst 0, 1) := by decide +kernel
theorem d_X5_joined_121 : decode prog_7_method_17_code 121 = .ok (.ireturn, 1) := by decide +kernel
theorem d_X5_joined_122 : decode prog_7_method_17_code 122 = .ok (.iload_n 1, 1) := by decide +kernel
theorem d_X5_joined_123 : decode prog_7_method_17_code 123 = .ok (.iload_n 2, 1) := by decide +kernel
theorem d_X5_joined_124 : decode prog_7_method_17_code 124 = .ok (.if_icmp .ne 7, 3) := by decide +kernel
theorem d_X5_joined_127 : decode prog_7_method_17_code 127 = .ok (.iconst 1, 1) := by decide +kernel
theorem d_X5_joined_128 : decode prog_7_method_17_code 128 = .ok (.goto 4, 3) := by decide +kernel
theorem d_X5_joined_131 : decode prog_7_method_17_code 131 = .ok (.iconst 0, 1) := by decide +kernel
theorem d_X5_joined_132 : decode prog_7_method_17_code 132 = .ok (.ireturn, 1) := by decide +kernel
theorem d_X5_joined_133 : decode prog_7_method_17_code 133 = .ok (.iload_n 1, 1) := by decide +kernel
theorem d_X5_joined_134 : decode prog_7_method_17_code 134 = .ok (.iload_n 2, 1) := by decide +kernel
theorem d_X5_joined_135 : decode prog_7_method_17_code 135 = .ok (.iadd, 1) := by decide +kernel
theorem d_X5_joined_136 : decode prog_7_method_17_code 136 = .ok (.ireturn, 1) := by decide +kernel
theorem d_X5_joined_137 : decode prog_7_method_17_code 137 = .ok (.iload_n 1, 1) := by decide +kernel
theorem d_X5_joined_138 : decode prog_7_method_17_code 138 = .ok (.iload_n 2, 1) := by decide +kernel
theorem d_X5_joined_139 : decode prog_7_method_17_code 139 = .ok (.isub, 1) := by decide +kernel
theorem d_X5_joined_140 : decode prog_7_method_17_code 140 = .ok (.ireturn, 1) := by decide +kernel
theorem d_X5_joined_141 : decode prog_7_method_17_code 141 = .ok (.iload_n 1, 1) := by decide +kernel
theorem d_X5_joined_142 : decode prog_7_method_17_code 142 = .ok (.iload_n 2, 1) := by decide +kernel
theorem d_X5_joined_143 : decode prog_7_method_17_code 143 = .ok (.imul, 1) := by decide +kernel
theorem d_X5_joined_144 : decode prog_7_method_17_code 144 = .ok (.ireturn, 1) := by decide +kernel
theorem d_X5_joined_145 : decode prog_7_method_17_code 145 = .ok (.iload_n 2, 1) := by decide +kernel
theorem d_X5_joined_146 : decode prog_7_method_17_code 146 = .ok (.ifCond .ne 7, 3) := by decide +kernel
theorem d_X5_joined_149 : decode prog_7_method_17_code 149 = .ok (.iconst 0, 1) := by decide +kernel
theorem d_X5_joined_150 : decode prog_7_method_17_code 150 = .ok (.goto 6, 3) := by decide +kernel
theorem d_X5_joined_153 : decode prog_7_method_17_code 153 = .ok (.iload_n 1, 1) := by decide +kernel
theorem d_X5_joined_154 : decode prog_7_method_17_code 154 = .ok (.iload_n 2, 1) := by decide +kernel
theorem d_X5_joined_155 : decode prog_7_method_17_code 155 = .ok (.idiv, 1) := by decide +kernel
theorem d_X5_joined_156 : decode prog_7_method_17_code 156 = .ok (.ireturn, 1) := by decide +kernel
theorem d_X5_joined_157 : decode prog_7_method_17_code 157 = .ok (.iconst 0, 1) := by decide +kernel
theorem d_X5_joined_158 : decode prog_7_method_17_code 158 = .ok (.ireturn, 1) := by decide +kernel
def f_X5_joined (a0 : Int32) (a1 : Int32) (a2 : Int32) : Option (Int32) := (if a0 = (42 : Int32) then some (a1 * a2) else if a0 = (43 : Int32) then some (a1 + a2) else if a0 = (45 : Int32) then some (a1 - a2) else if a0 = (47 : Int32) then (if a2 = 0 then some (0 : Int32) else gd (nz a2) (some (a1 / a2))) else if a0 = (60 : Int32) then some (if a2 ≤ a1 then (0 : Int32) else (1 : Int32)) else if a0 = (61 : Int32) then some (if a1 = a2 then (1 : Int32) else (0 : Int32)) else if a0 = (62 : Int32) then some (if a1 ≤ a2 then (0 : Int32) else (1 : Int32)) else some (0 : Int32))
theorem c_X5_joined {l : Launch} {G : gT} {χ σ : St} {a0 : Int32} {a1 : Int32} {a2 : Int32} {q : Int32} (h : f_X5_joined a0 a1 a2 = some q) : Ct l G yX5_joined prog_7_method_17_code 3 (some .int) 0 0 [.int a0, .int a1, .int a2] χ σ (some (.int q)) χ σ := by
  refine Ct.of (by decide) (Nat.le_of_ble_eq_true rfl) ?_
  intro p e s m args below meth c Q X hr hlk hQ
  have hx := X.1
  have hb := X.2.1
  intro H locs ls hw hl
  have hl : lv_has ls 3 [(0, .int a0), (1, .int a1), (2, .int a2)] := hl
  unfold f_X5_joined at h
  refine lv_iload_n hx hb d_X5_joined_0 rfl (lv_at hl 0 rfl) ?_
  by_cases hc0 : a0 = (42 : Int32)
  · have h := ite_t h hc0
    refine lv_tableIn (tgt := 141) hx hb d_X5_joined_1 (by rw [hc0]; decide) (by rw [hc0]; decide) (by rw [hc0]; rfl) (by decide) ?_
    refine lv_iload_n hx hb d_X5_joined_141 rfl (lv_at hl 1 rfl) ?_
    refine lv_iload_n hx hb d_X5_joined_142 rfl (lv_at hl 2 rfl) ?_
    refine lv_imul hx hb d_X5_joined_143 ?_
    obtain rfl := Option.some.inj h
    subst hQ
    exact r_iret X hr hlk hw d_X5_joined_144
  have h := ite_f h hc0
  by_cases hc1 : a0 = (43 : Int32)
  · have h := ite_t h hc1
    refine lv_tableIn (tgt := 133) hx hb d_X5_joined_1 (by rw [hc1]; decide) (by rw [hc1]; decide) (by rw [hc1]; rfl) (by decide) ?_
    refine lv_iload_n hx hb d_X5_joined_133 rfl (lv_at hl 1 rfl) ?_
    refine lv_iload_n hx hb d_X5_joined_134 rfl (lv_at hl 2 rfl) ?_
    refine lv_iadd hx hb d_X5_joined_135 ?_
    obtain rfl := Option.some.inj h
    subst hQ
    exact r_iret X hr hlk hw d_X5_joined_136
  have h := ite_f h hc1
  by_cases hc2 : a0 = (45 : Int32)
  · have h := ite_t h hc2
    refine lv_tableIn (tgt := 137) hx hb d_X5_joined_1 (by rw [hc2]; decide) (by rw [hc2]; decide) (by rw [hc2]; rfl) (by decide) ?_
    refine lv_iload_n hx hb d_X5_joined_137 rfl (lv_at hl 1 rfl) ?_
    refine lv_iload_n hx hb d_X5_joined_138 rfl (lv_at hl 2 rfl) ?_
    refine lv_isub hx hb d_X5_joined_139 ?_
    obtain rfl := Option.some.inj h
    subst hQ
    exact r_iret X hr hlk hw d_X5_joined_140
  have h := ite_f h hc2
  by_cases hc3 : a0 = (47 : Int32)
  · have h := ite_t h hc3
    refine lv_tableIn (tgt := 145) hx hb d_X5_joined_1 (by rw [hc3]; decide) (by rw [hc3]; decide) (by rw [hc3]; rfl) (by decide) ?_
    refine lv_iload_n hx hb d_X5_joined_145 rfl (lv_at hl 2 rfl) ?_
    refine lv_if_ne (tgt := 153) hx hb d_X5_joined_146 (by decide) (fun hc => ?_) (fun hc => ?_)
    · have h := ite_f h hc
      refine lv_iload_n hx hb d_X5_joined_153 rfl (lv_at hl 1 rfl) ?_
      refine lv_iload_n hx hb d_X5_joined_154 rfl (lv_at hl 2 rfl) ?_
      obtain ⟨hz1, h⟩ := gd_some h
      refine lv_idiv hx hb d_X5_joined_155 (nz_ne hz1) ?_
      obtain rfl := Option.some.inj h
      subst hQ
      exact r_iret X hr hlk hw d_X5_joined_156
    · have h := ite_t h hc
      refine lv_iconst (v := (0 : Int32)) hx hb d_X5_joined_149 (by decide) ?_
      refine lv_goto (tgt := 156) hx hb d_X5_joined_150 (by decide) ?_
      obtain rfl := Option.some.inj h
      subst hQ
      exact r_iret X hr hlk hw d_X5_joined_156
  have h := ite_f h hc3
  by_cases hc4 : a0 = (60 : Int32)
  · have h := ite_t h hc4
    refine lv_tableIn (tgt := 100) hx hb d_X5_joined_1 (by rw [hc4]; decide) (by rw [hc4]; decide) (by rw [hc4]; rfl) (by decide) ?_
    refine lv_iload_n hx hb d_X5_joined_100 rfl (lv_at hl 1 rfl) ?_
    refine lv_iload_n hx hb d_X5_joined_101 rfl (lv_at hl 2 rfl) ?_
    refine lv_icmp_ge (tgt := 109) hx hb d_X5_joined_102 (by decide) (fun hc => ?_) (fun hc => ?_)
    · simp only [if_pos hc] at h
      refine lv_iconst (v := (0 : Int32)) hx hb d_X5_joined_109 (by decide) ?_
      obtain rfl := Option.some.inj h
      subst hQ
      exact r_iret X hr hlk hw d_X5_joined_110
    · simp only [if_neg hc] at h
      refine lv_iconst (v := (1 : Int32)) hx hb d_X5_joined_105 (by decide) ?_
      refine lv_goto (tgt := 110) hx hb d_X5_joined_106 (by decide) ?_
      obtain rfl := Option.some.inj h
      subst hQ
      exact r_iret X hr hlk hw d_X5_joined_110
  have h := ite_f h hc4
  by_cases hc5 : a0 = (61 : Int32)
  · have h := ite_t h hc5
    refine lv_tableIn (tgt := 122) hx hb d_X5_joined_1 (by rw [hc5]; decide) (by rw [hc5]; decide) (by rw [hc5]; rfl) (by decide) ?_
    refine lv_iload_n hx hb d_X5_joined_122 rfl (lv_at hl 1 rfl) ?_
    refine lv_iload_n hx hb d_X5_joined_123 rfl (lv_at hl 2 rfl) ?_
    refine lv_icmp_ne (tgt := 131) hx hb d_X5_joined_124 (by decide) (fun hc => ?_) (fun hc => ?_)
    · simp only [if_neg hc] at h
      refine lv_iconst (v := (0 : Int32)) hx hb d_X5_joined_131 (by decide) ?_
      obtain rfl := Option.some.inj h
      subst hQ
      exact r_iret X hr hlk hw d_X5_joined_132
    · simp only [if_pos hc] at h
      refine lv_iconst (v := (1 : Int32)) hx hb d_X5_joined_127 (by decide) ?_
      refine lv_goto (tgt := 132) hx hb d_X5_joined_128 (by decide) ?_
      obtain rfl := Option.some.inj h
      subst hQ
      exact r_iret X hr hlk hw d_X5_joined_132
  have h := ite_f h hc5
  by_cases hc6 : a0 = (62 : Int32)
  · have h := ite_t h hc6
    refine lv_tableIn (tgt := 111) hx hb d_X5_joined_1 (by rw [hc6]; decide) (by rw [hc6]; decide) (by rw [hc6]; rfl) (by decide) ?_
    refine lv_iload_n hx hb d_X5_joined_111 rfl (lv_at hl 1 rfl) ?_
    refine lv_iload_n hx hb d_X5_joined_112 rfl (lv_at hl 2 rfl) ?_
    refine lv_icmp_le (tgt := 120) hx hb d_X5_joined_113 (by decide) (fun hc => ?_) (fun hc => ?_)
    · simp only [if_pos hc] at h
      refine lv_iconst (v := (0 : Int32)) hx hb d_X5_joined_120 (by decide) ?_
      obtain rfl := Option.some.inj h
      subst hQ
      exact r_iret X hr hlk hw d_X5_joined_121
    · simp only [if_neg hc] at h
      refine lv_iconst (v := (1 : Int32)) hx hb d_X5_joined_116 (by decide) ?_
      refine lv_goto (tgt := 121) hx hb d_X5_joined_117 (by decide) ?_
      obtain rfl := Option.some.inj h
      subst hQ
      exact r_iret X hr hlk hw d_X5_joined_121
  have h := ite_f h hc6
  have hn0 := lv_neT hc0 (a := 42) (by decide)
  have hn1 := lv_neT hc1 (a := 43) (by decide)
  have hn2 := lv_neT hc2 (a := 45) (by decide)
  have hn3 := lv_neT hc3 (a := 47) (by decide)
  have hn4 := lv_neT hc4 (a := 60) (by decide)
  have hn5 := lv_neT hc5 (a := 61) (by decide)
  have hn6 := lv_neT hc6 (a := 62) (by decide)
  refine lv_tabD (tgt := 157) hx hb d_X5_joined_1 ?_ (by decide) ?_
  · have hg : a0.toInt < 42 ∨ 62 < a0.toInt ∨ a0.toInt = 44 ∨ a0.toInt = 46 ∨ a0.toInt = 48 ∨ a0.toInt = 49 ∨ a0.toInt = 50 ∨ a0.toInt = 51 ∨ a0.toInt = 52 ∨ a0.toInt = 53 ∨ a0.toInt = 54 ∨ a0.toInt = 55 ∨ a0.toInt = 56 ∨ a0.toInt = 57 ∨ a0.toInt = 58 ∨ a0.toInt = 59 := by omega
    rcases hg with hg | hg | hg | hg | hg | hg | hg | hg | hg | hg | hg | hg | hg | hg | hg | hg
    · exact Or.inl hg
    · exact Or.inr (Or.inl hg)
    · exact Or.inr (Or.inr ⟨by rw [hg]; decide, by rw [hg]; decide, by rw [hg]; rfl⟩)
    · exact Or.inr (Or.inr ⟨by rw [hg]; decide, by rw [hg]; decide, by rw [hg]; rfl⟩)
    · exact Or.inr (Or.inr ⟨by rw [hg]; decide, by rw [hg]; decide, by rw [hg]; rfl⟩)
    · exact Or.inr (Or.inr ⟨by rw [hg]; decide, by rw [hg]; decide, by rw [hg]; rfl⟩)
    · exact Or.inr (Or.inr ⟨by rw [hg]; decide, by rw [hg]; decide, by rw [hg]; rfl⟩)
    · exact Or.inr (Or.inr ⟨by rw [hg]; decide, by rw [hg]; decide, by rw [hg]; rfl⟩)
    · exact Or.inr (Or.inr ⟨by rw [hg]; decide, by rw [hg]; decide, by rw [hg]; rfl⟩)
    · exact Or.inr (Or.inr ⟨by rw [hg]; decide, by rw [hg]; decide, by rw [hg]; rfl⟩)
    · exact Or.inr (Or.inr ⟨by rw [hg]; decide, by rw [hg]; decide, by rw [hg]; rfl⟩)
    · exact Or.inr (Or.inr ⟨by rw [hg]; decide, by rw [hg]; decide, by rw [hg]; rfl⟩)
    · exact Or.inr (Or.inr ⟨by rw [hg]; decide, by rw [hg]; decide, by rw [hg]; rfl⟩)
    · exact Or.inr (Or.inr ⟨by rw [hg]; decide, by rw [hg]; decide, by rw [hg]; rfl⟩)
    · exact Or.inr (Or.inr ⟨by rw [hg]; decide, by rw [hg]; decide, by rw [hg]; rfl⟩)
    · exact Or.inr (Or.inr ⟨by rw [hg]; decide, by rw [hg]; decide, by rw [hg]; rfl⟩)
  refine lv_iconst (v := (0 : Int32)) hx hb d_X5_joined_157 (by decide) ?_
  obtain rfl := Option.some.inj h
  subst hQ
  exact r_iret X hr hlk hw d_X5_joined_158
abbrev yX5_letter : MethodName := ⟨"OysterBeds$Law", "letter", "(ILOysterBeds$Bed;III)I"⟩
theorem mwX5_letter : MW yX5_letter prog_7_method_16_code 5 (some .int) 5 := ⟨wd_407, wd_8, by decide +kernel⟩
theorem d_X5_letter_0 : decode prog_7_method_16_code 0 = .ok (.aload_n 1, 1) := by decide +kernel
theorem d_X5_letter_1 : decode prog_7_method_16_code 1 = .ok (.iload_n 2, 1) := by decide +kernel
theorem d_X5_letter_2 : decode prog_7_method_16_code 2 = .ok (.invokevirtual 112, 3) := by decide +kernel
theorem d_X5_letter_5 : decode prog_7_method_16_code 5 = .ok (.ifCond .ne 5, 3) := by decide +kernel
theorem d_X5_letter_8 : decode prog_7_method_16_code 8 = .ok (.iconst 0, 1) := by decide +kernel
theorem d_X5_letter_9 : decode prog_7_method_16_code 9 = .ok (.ireturn, 1) := by decide +kernel
theorem d_X5_letter_10 : decode prog_7_method_16_code 10 = .ok (.iload_n 0, 1) := by decide +kernel
theorem d_X5_letter_11 : decode prog_7_method_16_code 11 = .ok (.tableswitch 137 99 119 #[116, 137, 137, 97, 137, 137, 137, 137, 106, 137, 137, 129, 137, 122, 137, 137, 137, 137, 137, 104, 113], 97) := by decide +kernel
theorem d_X5_letter_108 : decode prog_7_method_16_code 108 = .ok (.aload_n 1, 1) := by decide +kernel
theorem d_X5_letter_109 : decode prog_7_method_16_code 109 = .ok (.getfield 117, 3) := by decide +kernel
theorem d_X5_letter_112 : decode prog_7_method_16_code 112 = .ok (.iload_n 2, 1) := by decide +kernel
theorem d_X5_letter_113 : decode prog_7_method_16_code 113 = .ok (.iaload, 1) := by decide +kernel
theorem d_X5_letter_114 : decode prog_7_method_16_code 114 = .ok (.ireturn, 1) := by decide +kernel
theorem d_X5_letter_115 : decode prog_7_method_16_code 115 = .ok (.iload_n 3, 1) := by decide +kernel
theorem d_X5_letter_116 : decode prog_7_method_16_code 116 = .ok (.ireturn, 1) := by decide +kernel
theorem d_X5_letter_117 : decode prog_7_method_16_code 117 = .ok (.aload_n 1, 1) := by decide +kernel
theorem d_X5_letter_118 : decode prog_7_method_16_code 118 = .ok (.getfield 120, 3) := by decide +kernel
theorem d_X5_letter_121 : decode prog_7_method_16_code 121 = .ok (.iload_n 2, 1) := by decide +kernel
theorem d_X5_letter_122 : decode prog_7_method_16_code 122 = .ok (.iaload, 1) := by decide +kernel
theorem d_X5_letter_123 : decode prog_7_method_16_code 123 = .ok (.ireturn, 1) := by decide +kernel
theorem d_X5_letter_124 : decode prog_7_method_16_code 124 = .ok (.iload 4, 2) := by decide +kernel
theorem d_X5_letter_126 : decode prog_7_method_16_code 126 = .ok (.ireturn, 1) := by decide +kernel
theorem d_X5_letter_127 : decode prog_7_method_16_code 127 = .ok (.aload_n 1, 1) := by decide +kernel
theorem d_X5_letter_128 : decode prog_7_method_16_code 128 = .ok (.iload_n 2, 1) := by decide +kernel
theorem d_X5_letter_129 : decode prog_7_method_16_code 129 = .ok (.invokevirtual 123, 3) := by decide +kernel
theorem d_X5_letter_132 : decode prog_7_method_16_code 132 = .ok (.ireturn, 1) := by decide +kernel
theorem d_X5_letter_133 : decode prog_7_method_16_code 133 = .ok (.aload_n 1, 1) := by decide +kernel
theorem d_X5_letter_134 : decode prog_7_method_16_code 134 = .ok (.getfield 126, 3) := by decide +kernel
theorem d_X5_letter_137 : decode prog_7_method_16_code 137 = .ok (.iload_n 2, 1) := by decide +kernel
theorem d_X5_letter_138 : decode prog_7_method_16_code 138 = .ok (.iaload, 1) := by decide +kernel
theorem d_X5_letter_139 : decode prog_7_method_16_code 139 = .ok (.ireturn, 1) := by decide +kernel
theorem d_X5_letter_140 : decode prog_7_method_16_code 140 = .ok (.aload_n 1, 1) := by decide +kernel
theorem d_X5_letter_141 : decode prog_7_method_16_code 141 = .ok (.getfield 129, 3) := by decide +kernel
theorem d_X5_letter_144 : decode prog_7_method_16_code 144 = .ok (.bipush 7, 2) := by decide +kernel
theorem d_X5_letter_146 : decode prog_7_method_16_code 146 = .ok (.irem, 1) := by decide +kernel
theorem d_X5_letter_147 : decode prog_7_method_16_code 147 = .ok (.ireturn, 1) := by decide +kernel
theorem d_X5_letter_148 : decode prog_7_method_16_code 148 = .ok (.iconst 0, 1) := by decide +kernel
theorem d_X5_letter_149 : decode prog_7_method_16_code 149 = .ok (.ireturn, 1) := by decide +kernel
def f_X5_letter (χ : St) (a0 : Int32) (b1 : Nat) (a2 : Int32) (a3 : Int32) (a4 : Int32) : Option (Int32) := (f_X0_has χ b1 a2).bind (fun q1 => (if q1 = 0 then some (0 : Int32) else (if a0 = (99 : Int32) then (f_X0_likesOpen χ b1 a2).bind (fun q3 => some q3) else if a0 = (102 : Int32) then gd (inb a2 8) (some (cA χ (b1 + 2) a2.toNatClampNeg)) else if a0 = (107 : Int32) then gd (inb a2 8) (some (cA χ (b1 + 1) a2.toNatClampNeg)) else if a0 = (110 : Int32) then some ((cF χ b1 6) - (cF χ b1 6) / (7 : Int32) * (7 : Int32)) else if a0 = (112 : Int32) then gd (inb a2 8) (some (cA χ (b1 + 5) a2.toNatClampNeg)) else if a0 = (118 : Int32) then some a3 else if a0 = (119 : Int32) then some a4 else some (0 : Int32))))
theorem c_X5_letter {l : Launch} {G : gT} {χ σ : St} {b1 : Nat} {a0 : Int32} {a2 : Int32} {a3 : Int32} {a4 : Int32} (hf : FW G) (hb_b1 : isBed b1 = true) {q : Int32} (h : f_X5_letter χ a0 b1 a2 a3 a4 = some q) : Ct l G yX5_letter prog_7_method_16_code 5 (some .int) 1 23 [.int a0, .ref (ga G b1), .int a2, .int a3, .int a4] χ σ (some (.int q)) χ σ := by
  obtain ⟨ob0_b1, ob1_b1, ob2_b1, ob3_b1, ob4_b1, ob5_b1, lb_b1, -, -⟩ := bed_at hf hb_b1
  have lb0_b1 : b1 < 300 := by omega
  have lb1_b1 : b1 + 1 < 300 := by omega
  have lb2_b1 : b1 + 2 < 300 := by omega
  have lb3_b1 : b1 + 3 < 300 := by omega
  have lb4_b1 : b1 + 4 < 300 := by omega
  have lb5_b1 : b1 + 5 < 300 := by omega
  refine Ct.of (by decide) (Nat.le_of_ble_eq_true rfl) ?_
  intro p e s m args below meth c Q X hr hlk hQ
  have hx := X.1
  have hb := X.2.1
  intro H locs ls hw hl
  have hl : lv_has ls 5 [(0, .int a0), (1, .ref (ga G b1)), (2, .int a2), (3, .int a3), (4, .int a4)] := hl
  unfold f_X5_letter at h
  refine lv_aload_n hx hb d_X5_letter_0 rfl (lv_at hl 1 rfl) ?_
  refine lv_iload_n hx hb d_X5_letter_1 rfl (lv_at hl 2 rfl) ?_
  obtain ⟨q1, e2, h⟩ := bd_some h
  refine r_callV (As := [.int a2]) (rest := []) (st' := [.int q1]) X hw hl mwX0_has wd_409 wd_410 wd_408 (c_X0_has hf hb_b1 e2) (r_recv X hw ct0 ob0_b1) rfl ⟨Nat.le_of_ble_eq_true rfl, Nat.le_of_ble_eq_true rfl⟩ ⟨Nat.le_refl _, Nat.le_refl _⟩ rfl rfl (Nat.le_of_ble_eq_true rfl) d_X5_letter_2 (fun H locs hw => ?_)
  refine lv_if_ne (tgt := 10) hx hb d_X5_letter_5 (by decide) (fun hc => ?_) (fun hc => ?_)
  · have h := ite_f h hc
    refine lv_iload_n hx hb d_X5_letter_10 rfl (lv_at hl 0 rfl) ?_
    by_cases hc0 : a0 = (99 : Int32)
    · have h := ite_t h hc0
      refine lv_tableIn (tgt := 127) hx hb d_X5_letter_11 (by rw [hc0]; decide) (by rw [hc0]; decide) (by rw [hc0]; rfl) (by decide) ?_
      refine lv_aload_n hx hb d_X5_letter_127 rfl (lv_at hl 1 rfl) ?_
      refine lv_iload_n hx hb d_X5_letter_128 rfl (lv_at hl 2 rfl) ?_
      obtain ⟨q3, e4, h⟩ := bd_some h
      refine r_callV (As := [.int a2]) (rest := []) (st' := [.int q3]) X hw hl mwX0_likesOpen wd_413 wd_414 wd_412 (c_X0_likesOpen hf hb_b1 e4) (r_recv X hw ct0 ob0_b1) rfl ⟨Nat.le_of_ble_eq_true rfl, Nat.le_of_ble_eq_true rfl⟩ ⟨Nat.le_refl _, Nat.le_refl _⟩ rfl rfl (Nat.le_of_ble_eq_true rfl) d_X5_letter_129 (fun H locs hw => ?_)
      obtain rfl := Option.some.inj h
      subst hQ
      exact r_iret X hr hlk hw d_X5_letter_132
    have h := ite_f h hc0
    by_cases hc1 : a0 = (102 : Int32)
    · have h := ite_t h hc1
      refine lv_tableIn (tgt := 108) hx hb d_X5_letter_11 (by rw [hc1]; decide) (by rw [hc1]; decide) (by rw [hc1]; rfl) (by decide) ?_
      refine lv_aload_n hx hb d_X5_letter_108 rfl (lv_at hl 1 rfl) ?_
      refine r_getrN (j := 1) X hw ct0 ob0_b1 rfl (Nat.le_of_ble_eq_true rfl) (q := (b1 + 2)) (rt_bed hb_b1) nw_13 d_X5_letter_109 ?_
      refine lv_iload_n hx hb d_X5_letter_112 rfl (lv_at hl 2 rfl) ?_
      obtain ⟨hi5, h⟩ := gd_some h
      refine r_iald X hw ob2_b1 lb2_b1 hi5 d_X5_letter_113 ?_
      obtain rfl := Option.some.inj h
      subst hQ
      exact r_iret X hr hlk hw d_X5_letter_114
    have h := ite_f h hc1
    by_cases hc2 : a0 = (107 : Int32)
    · have h := ite_t h hc2
      refine lv_tableIn (tgt := 117) hx hb d_X5_letter_11 (by rw [hc2]; decide) (by rw [hc2]; decide) (by rw [hc2]; rfl) (by decide) ?_
      refine lv_aload_n hx hb d_X5_letter_117 rfl (lv_at hl 1 rfl) ?_
      refine r_getrN (j := 0) X hw ct0 ob0_b1 rfl (Nat.le_of_ble_eq_true rfl) (q := (b1 + 1)) (rt_bed hb_b1) nw_9 d_X5_letter_118 ?_
      refine lv_iload_n hx hb d_X5_letter_121 rfl (lv_at hl 2 rfl) ?_
      obtain ⟨hi6, h⟩ := gd_some h
      refine r_iald X hw ob1_b1 lb1_b1 hi6 d_X5_letter_122 ?_
      obtain rfl := Option.some.inj h
      subst hQ
      exact r_iret X hr hlk hw d_X5_letter_123
    have h := ite_f h hc2
    by_cases hc3 : a0 = (110 : Int32)
    · have h := ite_t h hc3
      refine lv_tableIn (tgt := 140) hx hb d_X5_letter_11 (by rw [hc3]; decide) (by rw [hc3]; decide) (by rw [hc3]; rfl) (by decide) ?_
      refine lv_aload_n hx hb d_X5_letter_140 rfl (lv_at hl 1 rfl) ?_
      refine r_getiN (j := 6) X hw ct0 ob0_b1 lb0_b1 rfl (Nat.le_of_ble_eq_true rfl) nw_27 d_X5_letter_141 ?_
      refine lv_bipush (v := (7 : Int32)) hx hb d_X5_letter_144 (by decide) ?_
      refine lv_irem hx hb d_X5_letter_146 (by decide) ?_
      obtain rfl := Option.some.inj h
      subst hQ
      exact r_iret X hr hlk hw d_X5_letter_147
    have h := ite_f h hc3
    by_cases hc4 : a0 = (112 : Int32)
    · have h := ite_t h hc4
      refine lv_tableIn (tgt := 133) hx hb d_X5_letter_11 (by rw [hc4]; decide) (by rw [hc4]; decide) (by rw [hc4]; rfl) (by decide) ?_
      refine lv_aload_n hx hb d_X5_letter_133 rfl (lv_at hl 1 rfl) ?_
      refine r_getrN (j := 4) X hw ct0 ob0_b1 rfl (Nat.le_of_ble_eq_true rfl) (q := (b1 + 5)) (rt_bed hb_b1) nw_21 d_X5_letter_134 ?_
      refine lv_iload_n hx hb d_X5_letter_137 rfl (lv_at hl 2 rfl) ?_
      obtain ⟨hi7, h⟩ := gd_some h
      refine r_iald X hw ob5_b1 lb5_b1 hi7 d_X5_letter_138 ?_
      obtain rfl := Option.some.inj h
      subst hQ
      exact r_iret X hr hlk hw d_X5_letter_139
    have h := ite_f h hc4
    by_cases hc5 : a0 = (118 : Int32)
    · have h := ite_t h hc5
      refine lv_tableIn (tgt := 115) hx hb d_X5_letter_11 (by rw [hc5]; decide) (by rw [hc5]; decide) (by rw [hc5]; rfl) (by decide) ?_
      refine lv_iload_n hx hb d_X5_letter_115 rfl (lv_at hl 3 rfl) ?_
      obtain rfl := Option.some.inj h
      subst hQ
      exact r_iret X hr hlk hw d_X5_letter_116
    have h := ite_f h hc5
    by_cases hc6 : a0 = (119 : Int32)
    · have h := ite_t h hc6
      refine lv_tableIn (tgt := 124) hx hb d_X5_letter_11 (by rw [hc6]; decide) (by rw [hc6]; decide) (by rw [hc6]; rfl) (by decide) ?_
      refine lv_iload hx hb d_X5_letter_124 (lv_at hl 4 rfl) ?_
      obtain rfl := Option.some.inj h
      subst hQ
      exact r_iret X hr hlk hw d_X5_letter_126
    have h := ite_f h hc6
    have hn0 := lv_neT hc0 (a := 99) (by decide)
    have hn1 := lv_neT hc1 (a := 102) (by decide)
    have hn2 := lv_neT hc2 (a := 107) (by decide)
    have hn3 := lv_neT hc3 (a := 110) (by decide)
    have hn4 := lv_neT hc4 (a := 112) (by decide)
    have hn5 := lv_neT hc5 (a := 118) (by decide)
    have hn6 := lv_neT hc6 (a := 119) (by decide)
    refine lv_tabD (tgt := 148) hx hb d_X5_letter_11 ?_ (by decide) ?_
    · have hg : a0.toInt < 99 ∨ 119 < a0.toInt ∨ a0.toInt = 100 ∨ a0.toInt = 101 ∨ a0.toInt = 103 ∨ a0.toInt = 104 ∨ a0.toInt = 105 ∨ a0.toInt = 106 ∨ a0.toInt = 108 ∨ a0.toInt = 109 ∨ a0.toInt = 111 ∨ a0.toInt = 113 ∨ a0.toInt = 114 ∨ a0.toInt = 115 ∨ a0.toInt = 116 ∨ a0.toInt = 117 := by omega
      rcases hg with hg | hg | hg | hg | hg | hg | hg | hg | hg | hg | hg | hg | hg | hg | hg | hg
      · exact Or.inl hg
      · exact Or.inr (Or.inl hg)
      · exact Or.inr (Or.inr ⟨by rw [hg]; decide, by rw [hg]; decide, by rw [hg]; rfl⟩)
      · exact Or.inr (Or.inr ⟨by rw [hg]; decide, by rw [hg]; decide, by rw [hg]; rfl⟩)
      · exact Or.inr (Or.inr ⟨by rw [hg]; decide, by rw [hg]; decide, by rw [hg]; rfl⟩)
      · exact Or.inr (Or.inr ⟨by rw [hg]; decide, by rw [hg]; decide, by rw [hg]; rfl⟩)
      · exact Or.inr (Or.inr ⟨by rw [hg]; decide, by rw [hg]; decide, by rw [hg]; rfl⟩)
      · exact Or.inr (Or.inr ⟨by rw [hg]; decide, by rw [hg]; decide, by rw [hg]; rfl⟩)
      · exact Or.inr (Or.inr ⟨by rw [hg]; decide, by rw [hg]; decide, by rw [hg]; rfl⟩)
      · exact Or.inr (Or.inr ⟨by rw [hg]; decide, by rw [hg]; decide, by rw [hg]; rfl⟩)
      · exact Or.inr (Or.inr ⟨by rw [hg]; decide, by rw [hg]; decide, by rw [hg]; rfl⟩)
      · exact Or.inr (Or.inr ⟨by rw [hg]; decide, by rw [hg]; decide, by rw [hg]; rfl⟩)
      · exact Or.inr (Or.inr ⟨by rw [hg]; decide, by rw [hg]; decide, by rw [hg]; rfl⟩)
      · exact Or.inr (Or.inr ⟨by rw [hg]; decide, by rw [hg]; decide, by rw [hg]; rfl⟩)
      · exact Or.inr (Or.inr ⟨by rw [hg]; decide, by rw [hg]; decide, by rw [hg]; rfl⟩)
      · exact Or.inr (Or.inr ⟨by rw [hg]; decide, by rw [hg]; decide, by rw [hg]; rfl⟩)
    refine lv_iconst (v := (0 : Int32)) hx hb d_X5_letter_148 (by decide) ?_
    obtain rfl := Option.some.inj h
    subst hQ
    exact r_iret X hr hlk hw d_X5_letter_149
  · have h := ite_t h hc
    refine lv_iconst (v := (0 : Int32)) hx hb d_X5_letter_8 (by decide) ?_
    obtain rfl := Option.some.inj h
    subst hQ
    exact r_iret X hr hlk hw d_X5_letter_9
abbrev yX5_value : MethodName := ⟨"OysterBeds$Law", "value", "(LOysterBeds$Bed;III)I"⟩
theorem mwX5_value : MW yX5_value prog_7_method_15_code 8 (some .int) 4 := ⟨wd_404, wd_8, by decide +kernel⟩
theorem d_X5_value_0 : decode prog_7_method_15_code 0 = .ok (.iconst 0, 1) := by decide +kernel
theorem d_X5_value_1 : decode prog_7_method_15_code 1 = .ok (.istore 5, 2) := by decide +kernel
theorem d_X5_value_3 : decode prog_7_method_15_code 3 = .ok (.iconst 0, 1) := by decide +kernel
theorem d_X5_value_4 : decode prog_7_method_15_code 4 = .ok (.istore 6, 2) := by decide +kernel
theorem d_X5_value_6 : decode prog_7_method_15_code 6 = .ok (.iload 6, 2) := by decide +kernel
theorem d_X5_value_8 : decode prog_7_method_15_code 8 = .ok (.aload_n 0, 1) := by decide +kernel
theorem d_X5_value_9 : decode prog_7_method_15_code 9 = .ok (.getfield 71, 3) := by decide +kernel
theorem d_X5_value_12 : decode prog_7_method_15_code 12 = .ok (.if_icmp .ge 160, 3) := by decide +kernel
theorem d_X5_value_15 : decode prog_7_method_15_code 15 = .ok (.aload_n 0, 1) := by decide +kernel
theorem d_X5_value_16 : decode prog_7_method_15_code 16 = .ok (.getfield 9, 3) := by decide +kernel
theorem d_X5_value_19 : decode prog_7_method_15_code 19 = .ok (.iload 6, 2) := by decide +kernel
theorem d_X5_value_21 : decode prog_7_method_15_code 21 = .ok (.iaload, 1) := by decide +kernel
theorem d_X5_value_22 : decode prog_7_method_15_code 22 = .ok (.sipush 1000, 3) := by decide +kernel
theorem d_X5_value_25 : decode prog_7_method_15_code 25 = .ok (.isub, 1) := by decide +kernel
theorem d_X5_value_26 : decode prog_7_method_15_code 26 = .ok (.istore 7, 2) := by decide +kernel
theorem d_X5_value_28 : decode prog_7_method_15_code 28 = .ok (.iload 7, 2) := by decide +kernel
theorem d_X5_value_30 : decode prog_7_method_15_code 30 = .ok (.sipush 256, 3) := by decide +kernel
theorem d_X5_value_33 : decode prog_7_method_15_code 33 = .ok (.if_icmp .ne 33, 3) := by decide +kernel
theorem d_X5_value_36 : decode prog_7_method_15_code 36 = .ok (.iload 5, 2) := by decide +kernel
theorem d_X5_value_38 : decode prog_7_method_15_code 38 = .ok (.iconst 1, 1) := by decide +kernel
theorem d_X5_value_39 : decode prog_7_method_15_code 39 = .ok (.if_icmp .ge 5, 3) := by decide +kernel
theorem d_X5_value_42 : decode prog_7_method_15_code 42 = .ok (.iconst 0, 1) := by decide +kernel
theorem d_X5_value_43 : decode prog_7_method_15_code 43 = .ok (.ireturn, 1) := by decide +kernel
theorem d_X5_value_44 : decode prog_7_method_15_code 44 = .ok (.aload_n 0, 1) := by decide +kernel
theorem d_X5_value_45 : decode prog_7_method_15_code 45 = .ok (.getfield 22, 3) := by decide +kernel
theorem d_X5_value_48 : decode prog_7_method_15_code 48 = .ok (.iload 5, 2) := by decide +kernel
theorem d_X5_value_50 : decode prog_7_method_15_code 50 = .ok (.iconst 1, 1) := by decide +kernel
theorem d_X5_value_51 : decode prog_7_method_15_code 51 = .ok (.isub, 1) := by decide +kernel
theorem d_X5_value_52 : decode prog_7_method_15_code 52 = .ok (.aload_n 0, 1) := by decide +kernel
theorem d_X5_value_53 : decode prog_7_method_15_code 53 = .ok (.getfield 22, 3) := by decide +kernel
theorem d_X5_value_56 : decode prog_7_method_15_code 56 = .ok (.iload 5, 2) := by decide +kernel
theorem d_X5_value_58 : decode prog_7_method_15_code 58 = .ok (.iconst 1, 1) := by decide +kernel
theorem d_X5_value_59 : decode prog_7_method_15_code 59 = .ok (.isub, 1) := by decide +kernel
theorem d_X5_value_60 : decode prog_7_method_15_code 60 = .ok (.iaload, 1) := by decide +kernel
theorem d_X5_value_61 : decode prog_7_method_15_code 61 = .ok (.ineg, 1) := by decide +kernel
theorem d_X5_value_62 : decode prog_7_method_15_code 62 = .ok (.iastore, 1) := by decide +kernel
theorem d_X5_value_63 : decode prog_7_method_15_code 63 = .ok (.goto 103, 3) := by decide +kernel
theorem d_X5_value_66 : decode prog_7_method_15_code 66 = .ok (.iload 7, 2) := by decide +kernel
theorem d_X5_value_68 : decode prog_7_method_15_code 68 = .ok (.ifCond .lt 10, 3) := by decide +kernel
theorem d_X5_value_71 : decode prog_7_method_15_code 71 = .ok (.iload 7, 2) := by decide +kernel
theorem d_X5_value_73 : decode prog_7_method_15_code 73 = .ok (.bipush 97, 2) := by decide +kernel
theorem d_X5_value_75 : decode prog_7_method_15_code 75 = .ok (.if_icmp .lt 50, 3) := by decide +kernel
theorem d_X5_value_78 : decode prog_7_method_15_code 78 = .ok (.iload 5, 2) := by decide +kernel
theorem d_X5_value_80 : decode prog_7_method_15_code 80 = .ok (.bipush 40, 2) := by decide +kernel
theorem d_X5_value_82 : decode prog_7_method_15_code 82 = .ok (.if_icmp .lt 5, 3) := by decide +kernel
theorem d_X5_value_85 : decode prog_7_method_15_code 85 = .ok (.iconst 0, 1) := by decide +kernel
theorem d_X5_value_86 : decode prog_7_method_15_code 86 = .ok (.ireturn, 1) := by decide +kernel
theorem d_X5_value_87 : decode prog_7_method_15_code 87 = .ok (.aload_n 0, 1) := by decide +kernel
theorem d_X5_value_88 : decode prog_7_method_15_code 88 = .ok (.getfield 22, 3) := by decide +kernel
theorem d_X5_value_91 : decode prog_7_method_15_code 91 = .ok (.iload 5, 2) := by decide +kernel
theorem d_X5_value_93 : decode prog_7_method_15_code 93 = .ok (.iload 7, 2) := by decide +kernel
theorem d_X5_value_95 : decode prog_7_method_15_code 95 = .ok (.ifCond .ge 13, 3) := by decide +kernel
theorem d_X5_value_98 : decode prog_7_method_15_code 98 = .ok (.aload_n 0, 1) := by decide +kernel
theorem d_X5_value_99 : decode prog_7_method_15_code 99 = .ok (.getfield 9, 3) := by decide +kernel
theorem d_X5_value_102 : decode prog_7_method_15_code 102 = .ok (.iload 6, 2) := by decide +kernel
theorem d_X5_value_104 : decode prog_7_method_15_code 104 = .ok (.iaload, 1) := by decide +kernel
theorem d_X5_value_105 : decode prog_7_method_15_code 105 = .ok (.goto 13, 3) := by decide +kernel
theorem d_X5_value_108 : decode prog_7_method_15_code 108 = .ok (.iload 7, 2) := by decide +kernel
theorem d_X5_value_110 : decode prog_7_method_15_code 110 = .ok (.aload_n 1, 1) := by decide +kernel
theorem d_X5_value_111 : decode prog_7_method_15_code 111 = .ok (.iload_n 2, 1) := by decide +kernel
theorem d_X5_value_112 : decode prog_7_method_15_code 112 = .ok (.iload_n 3, 1) := by decide +kernel
theorem d_X5_value_113 : decode prog_7_method_15_code 113 = .ok (.iload 4, 2) := by decide +kernel
theorem d_X5_value_115 : decode prog_7_method_15_code 115 = .ok (.invokestatic 104, 3) := by decide +kernel
theorem d_X5_value_118 : decode prog_7_method_15_code 118 = .ok (.iastore, 1) := by decide +kernel
theorem d_X5_value_119 : decode prog_7_method_15_code 119 = .ok (.iinc 5 1, 3) := by decide +kernel
theorem d_X5_value_122 : decode prog_7_method_15_code 122 = .ok (.goto 44, 3) := by decide +kernel
theorem d_X5_value_125 : decode prog_7_method_15_code 125 = .ok (.iload 5, 2) := by decide +kernel
theorem d_X5_value_127 : decode prog_7_method_15_code 127 = .ok (.iconst 2, 1) := by decide +kernel
theorem d_X5_value_128 : decode prog_7_method_15_code 128 = .ok (.if_icmp .ge 5, 3) := by decide +kernel
theorem d_X5_value_131 : decode prog_7_method_15_code 131 = .ok (.iconst 0, 1) := by decide +kernel
theorem d_X5_value_132 : decode prog_7_method_15_code 132 = .ok (.ireturn, 1) := by decide +kernel
theorem d_X5_value_133 : decode prog_7_method_15_code 133 = .ok (.iinc 5 (-1), 3) := by decide +kernel
theorem d_X5_value_136 : decode prog_7_method_15_code 136 = .ok (.aload_n 0, 1) := by decide +kernel
theorem d_X5_value_137 : decode prog_7_method_15_code 137 = .ok (.getfield 22, 3) := by decide +kernel
theorem d_X5_value_140 : decode prog_7_method_15_code 140 = .ok (.iload 5, 2) := by decide +kernel
theorem d_X5_value_142 : decode prog_7_method_15_code 142 = .ok (.iconst 1, 1) := by decide +kernel
theorem d_X5_value_143 : decode prog_7_method_15_code 143 = .ok (.isub, 1) := by decide +kernel
theorem d_X5_value_144 : decode prog_7_method_15_code 144 = .ok (.iload 7, 2) := by decide +kernel
theorem d_X5_value_146 : decode prog_7_method_15_code 146 = .ok (.aload_n 0, 1) := by decide +kernel
theorem d_X5_value_147 : decode prog_7_method_15_code 147 = .ok (.getfield 22, 3) := by decide +kernel
theorem d_X5_value_150 : decode prog_7_method_15_code 150 = .ok (.iload 5, 2) := by decide +kernel
theorem d_X5_value_152 : decode prog_7_method_15_code 152 = .ok (.iconst 1, 1) := by decide +kernel
theorem d_X5_value_153 : decode prog_7_method_15_code 153 = .ok (.isub, 1) := by decide +kernel
theorem d_X5_value_154 : decode prog_7_method_15_code 154 = .ok (.iaload, 1) := by decide +kernel
theorem d_X5_value_155 : decode prog_7_method_15_code 155 = .ok (.aload_n 0, 1) := by decide +kernel
theorem d_X5_value_156 : decode prog_7_method_15_code 156 = .ok (.getfield 22, 3) := by decide +kernel
theorem d_X5_value_159 : decode prog_7_method_15_code 159 = .ok (.iload 5, 2) := by decide +kernel
theorem d_X5_value_161 : decode prog_7_method_15_code 161 = .ok (.iaload, 1) := by decide +kernel
theorem d_X5_value_162 : decode prog_7_method_15_code 162 = .ok (.invokestatic 108, 3) := by decide +kernel
theorem d_X5_value_165 : decode prog_7_method_15_code 165 = .ok (.iastore, 1) := by decide +kernel
theorem d_X5_value_166 : decode prog_7_method_15_code 166 = .ok (.iinc 6 1, 3) := by decide +kernel
theorem d_X5_value_169 : decode prog_7_method_15_code 169 = .ok (.goto (-163), 3) := by decide +kernel
theorem d_X5_value_172 : decode prog_7_method_15_code 172 = .ok (.iload 5, 2) := by decide +kernel
theorem d_X5_value_174 : decode prog_7_method_15_code 174 = .ok (.iconst 1, 1) := by decide +kernel
theorem d_X5_value_175 : decode prog_7_method_15_code 175 = .ok (.if_icmp .ne 12, 3) := by decide +kernel
theorem d_X5_value_178 : decode prog_7_method_15_code 178 = .ok (.aload_n 0, 1) := by decide +kernel
theorem d_X5_value_179 : decode prog_7_method_15_code 179 = .ok (.getfield 22, 3) := by decide +kernel
theorem d_X5_value_182 : decode prog_7_method_15_code 182 = .ok (.iconst 0, 1) := by decide +kernel
theorem d_X5_value_183 : decode prog_7_method_15_code 183 = .ok (.iaload, 1) := by decide +kernel
theorem d_X5_value_184 : decode prog_7_method_15_code 184 = .ok (.goto 4, 3) := by decide +kernel
theorem d_X5_value_187 : decode prog_7_method_15_code 187 = .ok (.iconst 0, 1) := by decide +kernel
theorem d_X5_value_188 : decode prog_7_method_15_code 188 = .ok (.ireturn, 1) := by decide +kernel
def f_X5_value_j166_6 (w : Nat) (b1 : Nat) (τ : St) (x2 : Int32) (x3 : Int32) (x4 : Int32) (x5 : Int32) (x6 : Int32) : Option ((Int32 × Int32 × St) ⊕ ((Int32 × St) ⊕ (Int32 × St))) := some (.inl (x5, (x6 + (1 : Int32)), τ))
def f_X5_value_j118_6 (w : Nat) (b1 : Nat) (τ : St) (x2 : Int32) (x3 : Int32) (x4 : Int32) (x5 : Int32) (x6 : Int32) (s1 : Int32) (s2 : Int32) : Option ((Int32 × Int32 × St) ⊕ ((Int32 × St) ⊕ (Int32 × St))) := gd (inb s1 40) (f_X5_value_j166_6 w b1 (sA τ (w + 4) s1.toNatClampNeg s2) x2 x3 x4 (x5 + (1 : Int32)) x6)
def f_X5_value_j78_6 (w : Nat) (b1 : Nat) (τ : St) (x2 : Int32) (x3 : Int32) (x4 : Int32) (x5 : Int32) (x6 : Int32) (x7 : Int32) : Option ((Int32 × Int32 × St) ⊕ ((Int32 × St) ⊕ (Int32 × St))) := (if x5 < (40 : Int32) then (if 0 ≤ x7 then (f_X5_letter τ x7 b1 x2 x3 x4).bind (fun q2 => f_X5_value_j118_6 w b1 τ x2 x3 x4 x5 x6 x5 q2) else gd (inb x6 40) (f_X5_value_j118_6 w b1 τ x2 x3 x4 x5 x6 x5 (cA τ (w + 1) x6.toNatClampNeg))) else some (.inr (.inl ((0 : Int32), τ))))
def f_X5_value_s6 (w : Nat) (b1 : Nat) (τ : St) (y2 : Int32) (y3 : Int32) (y4 : Int32) (x5 : Int32) (x6 : Int32) : Option ((Int32 × Int32 × St) ⊕ ((Int32 × St) ⊕ (Int32 × St))) := (if (cF τ w 1) ≤ x6 then some (.inr (.inr (x5, τ))) else gd (inb x6 40) ((if ((cA τ (w + 1) x6.toNatClampNeg) - (1000 : Int32)) = (256 : Int32) then (if (1 : Int32) ≤ x5 then gd (inb (x5 - (1 : Int32)) 40) (gd (inb (x5 - (1 : Int32)) 40) (f_X5_value_j166_6 w b1 (sA τ (w + 4) (x5 - (1 : Int32)).toNatClampNeg (-(cA τ (w + 4) (x5 - (1 : Int32)).toNatClampNeg))) y2 y3 y4 x5 x6)) else some (.inr (.inl ((0 : Int32), τ)))) else (if ((cA τ (w + 1) x6.toNatClampNeg) - (1000 : Int32)) < 0 then f_X5_value_j78_6 w b1 τ y2 y3 y4 x5 x6 ((cA τ (w + 1) x6.toNatClampNeg) - (1000 : Int32)) else (if ((cA τ (w + 1) x6.toNatClampNeg) - (1000 : Int32)) < (97 : Int32) then (if (2 : Int32) ≤ x5 then gd (inb ((x5 + (-1 : Int32)) - (1 : Int32)) 40) (gd (inb (x5 + (-1 : Int32)) 40) ((f_X5_joined ((cA τ (w + 1) x6.toNatClampNeg) - (1000 : Int32)) (cA τ (w + 4) ((x5 + (-1 : Int32)) - (1 : Int32)).toNatClampNeg) (cA τ (w + 4) (x5 + (-1 : Int32)).toNatClampNeg)).bind (fun q8 => gd (inb ((x5 + (-1 : Int32)) - (1 : Int32)) 40) (f_X5_value_j166_6 w b1 (sA τ (w + 4) ((x5 + (-1 : Int32)) - (1 : Int32)).toNatClampNeg q8) y2 y3 y4 (x5 + (-1 : Int32)) x6)))) else some (.inr (.inl ((0 : Int32), τ)))) else f_X5_value_j78_6 w b1 τ y2 y3 y4 x5 x6 ((cA τ (w + 1) x6.toNatClampNeg) - (1000 : Int32)))))))
def f_X5_value (χ : St) (w : Nat) (b1 : Nat) (a2 : Int32) (a3 : Int32) (a4 : Int32) : Option (Int32 × St) := (iter (fun z => f_X5_value_s6 w b1 z.2.2 a2 a3 a4 z.1 z.2.1) FU ((0 : Int32), (0 : Int32), χ)).bind (Sum.elim (fun r => some r) (fun z13 => (if z13.1 = (1 : Int32) then gd (inb (0 : Int32) 40) (some ((cA z13.2 (w + 4) (0 : Int32).toNatClampNeg), z13.2)) else some ((0 : Int32), z13.2))))
theorem c_X5_value {l : Launch} {G : gT} {χ σ : St} {w : Nat} {b1 : Nat} {a2 : Int32} {a3 : Int32} {a4 : Int32} (hf : FW G) (hw_w : LW G w) (hb_b1 : isBed b1 = true) {q : Int32 × St} (h : f_X5_value χ w b1 a2 a3 a4 = some q) : Ct l G yX5_value prog_7_method_15_code 8 (some .int) 2 47 [.ref (ga G w), .ref (ga G b1), .int a2, .int a3, .int a4] χ σ (some (.int q.1)) q.2 σ := by
  obtain ⟨ow0_w, ow1_w, ow2_w, ow3_w, ow4_w, lw_w⟩ := law_at hw_w
  have lw0_w : w < 300 := by omega
  have lw1_w : w + 1 < 300 := by omega
  have lw2_w : w + 2 < 300 := by omega
  have lw3_w : w + 3 < 300 := by omega
  have lw4_w : w + 4 < 300 := by omega
  obtain ⟨ob0_b1, ob1_b1, ob2_b1, ob3_b1, ob4_b1, ob5_b1, lb_b1, -, -⟩ := bed_at hf hb_b1
  have lb0_b1 : b1 < 300 := by omega
  have lb1_b1 : b1 + 1 < 300 := by omega
  have lb2_b1 : b1 + 2 < 300 := by omega
  have lb3_b1 : b1 + 3 < 300 := by omega
  have lb4_b1 : b1 + 4 < 300 := by omega
  have lb5_b1 : b1 + 5 < 300 := by omega
  refine Ct.of (by decide) (Nat.le_of_ble_eq_true rfl) ?_
  intro p e s m args below meth c Q X hr hlk hQ
  have hx := X.1
  have hb := X.2.1
  have j166_6 : ∀ (τ : St) (x2 : Int32) (x3 : Int32) (x4 : Int32) (x5 : Int32) (x6 : Int32) (o : (Int32 × Int32 × St) ⊕ ((Int32 × St) ⊕ (Int32 × St))), f_X5_value_j166_6 w b1 τ x2 x3 x4 x5 x6 = some o → Sum.elim (fun z : Int32 × Int32 × St => Wat p l e (rmk 2 47) s m args below meth c Q G 8 6 [] [(5, .int z.1), (6, .int z.2.1), (0, .ref (ga G w)), (1, .ref (ga G b1)), (2, .int x2), (3, .int x3), (4, .int x4)] z.2.2 σ) (Sum.elim (fun r : Int32 × St => r = q) (fun z : Int32 × St => Wat p l e (rmk 2 47) s m args below meth c Q G 8 172 [] [(0, .ref (ga G w)), (5, .int z.1)] z.2 σ)) o → Wat p l e (rmk 2 47) s m args below meth c Q G 8 166 [] [(0, .ref (ga G w)), (1, .ref (ga G b1)), (2, .int x2), (3, .int x3), (4, .int x4), (5, .int x5), (6, .int x6)] τ σ := by
    intro τ x2 x3 x4 x5 x6 o h hk H locs ls hw hl
    unfold f_X5_value_j166_6 at h
    refine lv_iinc (v := (x6 + (1 : Int32))) (k := 6) (lv' := [(6, .int (x6 + (1 : Int32))), (0, .ref (ga G w)), (1, .ref (ga G b1)), (2, .int x2), (3, .int x3), (4, .int x4), (5, .int x5)]) hx hb d_X5_value_166 hl rfl (by rfl) (Nat.le_of_ble_eq_true rfl) rfl (fun ls hl => ?_)
    refine lv_goto (tgt := 6) hx hb d_X5_value_169 (by decide) ?_
    obtain rfl := Option.some.inj h
    dsimp only [Sum.elim_inl] at hk
    exact hk _ _ _ hw (lv_sub hl [6, 0, 1, 2, 3, 4, 5] rfl)
  have j118_6 : ∀ (τ : St) (x2 : Int32) (x3 : Int32) (x4 : Int32) (x5 : Int32) (x6 : Int32) (s1 : Int32) (s2 : Int32) (o : (Int32 × Int32 × St) ⊕ ((Int32 × St) ⊕ (Int32 × St))), f_X5_value_j118_6 w b1 τ x2 x3 x4 x5 x6 s1 s2 = some o → Sum.elim (fun z : Int32 × Int32 × St => Wat p l e (rmk 2 47) s m args below meth c Q G 8 6 [] [(5, .int z.1), (6, .int z.2.1), (0, .ref (ga G w)), (1, .ref (ga G b1)), (2, .int x2), (3, .int x3), (4, .int x4)] z.2.2 σ) (Sum.elim (fun r : Int32 × St => r = q) (fun z : Int32 × St => Wat p l e (rmk 2 47) s m args below meth c Q G 8 172 [] [(0, .ref (ga G w)), (5, .int z.1)] z.2 σ)) o → Wat p l e (rmk 2 47) s m args below meth c Q G 8 118 [.int s2, .int s1, .ref (ga G (w + 4))] [(0, .ref (ga G w)), (1, .ref (ga G b1)), (2, .int x2), (3, .int x3), (4, .int x4), (5, .int x5), (6, .int x6)] τ σ := by
    intro τ x2 x3 x4 x5 x6 s1 s2 o h hk H locs ls hw hl
    unfold f_X5_value_j118_6 at h
    obtain ⟨hi4, h⟩ := gd_some h
    refine r_iast X hw ow4_w lw4_w hi4 d_X5_value_118 (fun H locs hw => ?_)
    refine lv_iinc (v := (x5 + (1 : Int32))) (k := 5) (lv' := [(5, .int (x5 + (1 : Int32))), (0, .ref (ga G w)), (1, .ref (ga G b1)), (2, .int x2), (3, .int x3), (4, .int x4), (6, .int x6)]) hx hb d_X5_value_119 hl rfl (by rfl) (Nat.le_of_ble_eq_true rfl) rfl (fun ls hl => ?_)
    refine lv_goto (tgt := 166) hx hb d_X5_value_122 (by decide) ?_
    exact j166_6 (sA τ (w + 4) s1.toNatClampNeg s2) x2 x3 x4 (x5 + (1 : Int32)) x6 o h hk _ _ _ hw (lv_sub hl [1, 2, 3, 4, 5, 0, 6] rfl)
  have j78_6 : ∀ (τ : St) (x2 : Int32) (x3 : Int32) (x4 : Int32) (x5 : Int32) (x6 : Int32) (x7 : Int32) (o : (Int32 × Int32 × St) ⊕ ((Int32 × St) ⊕ (Int32 × St))), f_X5_value_j78_6 w b1 τ x2 x3 x4 x5 x6 x7 = some o → Sum.elim (fun z : Int32 × Int32 × St => Wat p l e (rmk 2 47) s m args below meth c Q G 8 6 [] [(5, .int z.1), (6, .int z.2.1), (0, .ref (ga G w)), (1, .ref (ga G b1)), (2, .int x2), (3, .int x3), (4, .int x4)] z.2.2 σ) (Sum.elim (fun r : Int32 × St => r = q) (fun z : Int32 × St => Wat p l e (rmk 2 47) s m args below meth c Q G 8 172 [] [(0, .ref (ga G w)), (5, .int z.1)] z.2 σ)) o → Wat p l e (rmk 2 47) s m args below meth c Q G 8 78 [] [(0, .ref (ga G w)), (1, .ref (ga G b1)), (2, .int x2), (3, .int x3), (4, .int x4), (5, .int x5), (6, .int x6), (7, .int x7)] τ σ := by
    intro τ x2 x3 x4 x5 x6 x7 o h hk H locs ls hw hl
    unfold f_X5_value_j78_6 at h
    refine lv_iload hx hb d_X5_value_78 (lv_at hl 5 rfl) ?_
    refine lv_bipush (v := (40 : Int32)) hx hb d_X5_value_80 (by decide) ?_
    refine lv_icmp_lt (tgt := 87) hx hb d_X5_value_82 (by decide) (fun hc => ?_) (fun hc => ?_)
    · have h := ite_t h hc
      refine lv_aload_n hx hb d_X5_value_87 rfl (lv_at hl 0 rfl) ?_
      refine r_getr (j := 8) X hw ct2 ow0_w rfl (Nat.le_of_ble_eq_true rfl) (q := (w + 4)) (rt_law hw_w).2.2.2 wd_244 d_X5_value_88 ?_
      refine lv_iload hx hb d_X5_value_91 (lv_at hl 5 rfl) ?_
      refine lv_iload hx hb d_X5_value_93 (lv_at hl 7 rfl) ?_
      refine lv_if_ge (tgt := 108) hx hb d_X5_value_95 (by decide) (fun hc => ?_) (fun hc => ?_)
      · have h := ite_t h hc
        refine lv_iload hx hb d_X5_value_108 (lv_at hl 7 rfl) ?_
        refine lv_aload_n hx hb d_X5_value_110 rfl (lv_at hl 1 rfl) ?_
        refine lv_iload_n hx hb d_X5_value_111 rfl (lv_at hl 2 rfl) ?_
        refine lv_iload_n hx hb d_X5_value_112 rfl (lv_at hl 3 rfl) ?_
        refine lv_iload hx hb d_X5_value_113 (lv_at hl 4 rfl) ?_
        obtain ⟨q2, e3, h⟩ := bd_some h
        refine r_callS (As := [.int x7, .ref (ga G b1), .int x2, .int x3, .int x4]) (rest := [.int x5, .ref (ga G (w + 4))]) (st' := [.int q2, .int x5, .ref (ga G (w + 4))]) X hw hl mwX5_letter wd_406 wd_405 (c_X5_letter hf hb_b1 e3) rfl ⟨Nat.le_of_ble_eq_true rfl, Nat.le_of_ble_eq_true rfl⟩ ⟨Nat.le_refl _, Nat.le_refl _⟩ rfl rfl (Nat.le_of_ble_eq_true rfl) d_X5_value_115 (fun H locs hw => ?_)
        exact j118_6 τ x2 x3 x4 x5 x6 x5 q2 o h hk _ _ _ hw (lv_sub hl [0, 1, 2, 3, 4, 5, 6] rfl)
      · have h := ite_f h hc
        refine lv_aload_n hx hb d_X5_value_98 rfl (lv_at hl 0 rfl) ?_
        refine r_getr (j := 0) X hw ct2 ow0_w rfl (Nat.le_of_ble_eq_true rfl) (q := (w + 1)) (rt_law hw_w).1 wd_236 d_X5_value_99 ?_
        refine lv_iload hx hb d_X5_value_102 (lv_at hl 6 rfl) ?_
        obtain ⟨hi5, h⟩ := gd_some h
        refine r_iald X hw ow1_w lw1_w hi5 d_X5_value_104 ?_
        refine lv_goto (tgt := 118) hx hb d_X5_value_105 (by decide) ?_
        exact j118_6 τ x2 x3 x4 x5 x6 x5 (cA τ (w + 1) x6.toNatClampNeg) o h hk _ _ _ hw (lv_sub hl [0, 1, 2, 3, 4, 5, 6] rfl)
    · have h := ite_f h hc
      refine lv_iconst (v := (0 : Int32)) hx hb d_X5_value_85 (by decide) ?_
      obtain rfl := Option.some.inj h
      cases (show _ = q from hk)
      subst hQ
      exact r_iret X hr hlk hw d_X5_value_86
  have b6 : ∀ (τ : St) (y2 : Int32) (y3 : Int32) (y4 : Int32) (x5 : Int32) (x6 : Int32) (o : (Int32 × Int32 × St) ⊕ ((Int32 × St) ⊕ (Int32 × St))), f_X5_value_s6 w b1 τ y2 y3 y4 x5 x6 = some o → Sum.elim (fun z : Int32 × Int32 × St => Wat p l e (rmk 2 47) s m args below meth c Q G 8 6 [] [(5, .int z.1), (6, .int z.2.1), (0, .ref (ga G w)), (1, .ref (ga G b1)), (2, .int y2), (3, .int y3), (4, .int y4)] z.2.2 σ) (Sum.elim (fun r : Int32 × St => r = q) (fun z : Int32 × St => Wat p l e (rmk 2 47) s m args below meth c Q G 8 172 [] [(0, .ref (ga G w)), (5, .int z.1)] z.2 σ)) o → Wat p l e (rmk 2 47) s m args below meth c Q G 8 6 [] [(5, .int x5), (6, .int x6), (0, .ref (ga G w)), (1, .ref (ga G b1)), (2, .int y2), (3, .int y3), (4, .int y4)] τ σ := by
    intro τ y2 y3 y4 x5 x6 o h hk H locs ls hw hl
    unfold f_X5_value_s6 at h
    refine lv_iload hx hb d_X5_value_6 (lv_at hl 1 rfl) ?_
    refine lv_aload_n hx hb d_X5_value_8 rfl (lv_at hl 2 rfl) ?_
    refine r_geti (j := 1) X hw ct2 ow0_w lw0_w rfl (Nat.le_of_ble_eq_true rfl) wd_237 d_X5_value_9 ?_
    refine lv_icmp_ge (tgt := 172) hx hb d_X5_value_12 (by decide) (fun hc => ?_) (fun hc => ?_)
    · have h := ite_t h hc
      obtain rfl := Option.some.inj h
      dsimp only [Sum.elim_inr, Sum.elim_inl] at hk
      exact hk _ _ _ hw (lv_sub hl [2, 0] rfl)
    · have h := ite_f h hc
      refine lv_aload_n hx hb d_X5_value_15 rfl (lv_at hl 2 rfl) ?_
      refine r_getr (j := 0) X hw ct2 ow0_w rfl (Nat.le_of_ble_eq_true rfl) (q := (w + 1)) (rt_law hw_w).1 wd_236 d_X5_value_16 ?_
      refine lv_iload hx hb d_X5_value_19 (lv_at hl 1 rfl) ?_
      obtain ⟨hi1, h⟩ := gd_some h
      refine r_iald X hw ow1_w lw1_w hi1 d_X5_value_21 ?_
      refine lv_sipush (v := (1000 : Int32)) hx hb d_X5_value_22 (by decide) ?_
      refine lv_isub hx hb d_X5_value_25 ?_
      refine lv_istore (lv' := [(7, .int ((cA τ (w + 1) x6.toNatClampNeg) - (1000 : Int32))), (5, .int x5), (6, .int x6), (0, .ref (ga G w)), (1, .ref (ga G b1)), (2, .int y2), (3, .int y3), (4, .int y4)]) hx hb d_X5_value_26 hl (Nat.le_of_ble_eq_true rfl) rfl (fun ls hl => ?_)
      refine lv_iload hx hb d_X5_value_28 (lv_at hl 0 rfl) ?_
      refine lv_sipush (v := (256 : Int32)) hx hb d_X5_value_30 (by decide) ?_
      refine lv_icmp_ne (tgt := 66) hx hb d_X5_value_33 (by decide) (fun hc => ?_) (fun hc => ?_)
      · have h := ite_f h hc
        refine lv_iload hx hb d_X5_value_66 (lv_at hl 0 rfl) ?_
        refine lv_if_lt (tgt := 78) hx hb d_X5_value_68 (by decide) (fun hc => ?_) (fun hc => ?_)
        · have h := ite_t h hc
          exact j78_6 τ y2 y3 y4 x5 x6 ((cA τ (w + 1) x6.toNatClampNeg) - (1000 : Int32)) o h hk _ _ _ hw (lv_sub hl [3, 4, 5, 6, 7, 1, 2, 0] rfl)
        · have h := ite_f h hc
          refine lv_iload hx hb d_X5_value_71 (lv_at hl 0 rfl) ?_
          refine lv_bipush (v := (97 : Int32)) hx hb d_X5_value_73 (by decide) ?_
          refine lv_icmp_lt (tgt := 125) hx hb d_X5_value_75 (by decide) (fun hc => ?_) (fun hc => ?_)
          · have h := ite_t h hc
            refine lv_iload hx hb d_X5_value_125 (lv_at hl 1 rfl) ?_
            refine lv_iconst (v := (2 : Int32)) hx hb d_X5_value_127 (by decide) ?_
            refine lv_icmp_ge (tgt := 133) hx hb d_X5_value_128 (by decide) (fun hc => ?_) (fun hc => ?_)
            · have h := ite_t h hc
              refine lv_iinc (v := (x5 + (-1 : Int32))) (k := 1) (lv' := [(5, .int (x5 + (-1 : Int32))), (7, .int ((cA τ (w + 1) x6.toNatClampNeg) - (1000 : Int32))), (6, .int x6), (0, .ref (ga G w)), (1, .ref (ga G b1)), (2, .int y2), (3, .int y3), (4, .int y4)]) hx hb d_X5_value_133 hl rfl (by rfl) (Nat.le_of_ble_eq_true rfl) rfl (fun ls hl => ?_)
              refine lv_aload_n hx hb d_X5_value_136 rfl (lv_at hl 3 rfl) ?_
              refine r_getr (j := 8) X hw ct2 ow0_w rfl (Nat.le_of_ble_eq_true rfl) (q := (w + 4)) (rt_law hw_w).2.2.2 wd_244 d_X5_value_137 ?_
              refine lv_iload hx hb d_X5_value_140 (lv_at hl 0 rfl) ?_
              refine lv_iconst (v := (1 : Int32)) hx hb d_X5_value_142 (by decide) ?_
              refine lv_isub hx hb d_X5_value_143 ?_
              refine lv_iload hx hb d_X5_value_144 (lv_at hl 1 rfl) ?_
              refine lv_aload_n hx hb d_X5_value_146 rfl (lv_at hl 3 rfl) ?_
              refine r_getr (j := 8) X hw ct2 ow0_w rfl (Nat.le_of_ble_eq_true rfl) (q := (w + 4)) (rt_law hw_w).2.2.2 wd_244 d_X5_value_147 ?_
              refine lv_iload hx hb d_X5_value_150 (lv_at hl 0 rfl) ?_
              refine lv_iconst (v := (1 : Int32)) hx hb d_X5_value_152 (by decide) ?_
              refine lv_isub hx hb d_X5_value_153 ?_
              obtain ⟨hi6, h⟩ := gd_some h
              refine r_iald X hw ow4_w lw4_w hi6 d_X5_value_154 ?_
              refine lv_aload_n hx hb d_X5_value_155 rfl (lv_at hl 3 rfl) ?_
              refine r_getr (j := 8) X hw ct2 ow0_w rfl (Nat.le_of_ble_eq_true rfl) (q := (w + 4)) (rt_law hw_w).2.2.2 wd_244 d_X5_value_156 ?_
              refine lv_iload hx hb d_X5_value_159 (lv_at hl 0 rfl) ?_
              obtain ⟨hi7, h⟩ := gd_some h
              refine r_iald X hw ow4_w lw4_w hi7 d_X5_value_161 ?_
              obtain ⟨q8, e9, h⟩ := bd_some h
              refine r_callS (As := [.int ((cA τ (w + 1) x6.toNatClampNeg) - (1000 : Int32)), .int (cA τ (w + 4) ((x5 + (-1 : Int32)) - (1 : Int32)).toNatClampNeg), .int (cA τ (w + 4) (x5 + (-1 : Int32)).toNatClampNeg)]) (rest := [.int ((x5 + (-1 : Int32)) - (1 : Int32)), .ref (ga G (w + 4))]) (st' := [.int q8, .int ((x5 + (-1 : Int32)) - (1 : Int32)), .ref (ga G (w + 4))]) X hw hl mwX5_joined wd_417 wd_416 (c_X5_joined e9) rfl ⟨Nat.le_of_ble_eq_true rfl, Nat.le_of_ble_eq_true rfl⟩ ⟨Nat.le_refl _, Nat.le_refl _⟩ rfl rfl (Nat.le_of_ble_eq_true rfl) d_X5_value_162 (fun H locs hw => ?_)
              obtain ⟨hi10, h⟩ := gd_some h
              refine r_iast X hw ow4_w lw4_w hi10 d_X5_value_165 (fun H locs hw => ?_)
              exact j166_6 (sA τ (w + 4) ((x5 + (-1 : Int32)) - (1 : Int32)).toNatClampNeg q8) y2 y3 y4 (x5 + (-1 : Int32)) x6 o h hk _ _ _ hw (lv_sub hl [3, 4, 5, 6, 7, 0, 2] rfl)
            · have h := ite_f h hc
              refine lv_iconst (v := (0 : Int32)) hx hb d_X5_value_131 (by decide) ?_
              obtain rfl := Option.some.inj h
              cases (show _ = q from hk)
              subst hQ
              exact r_iret X hr hlk hw d_X5_value_132
          · have h := ite_f h hc
            exact j78_6 τ y2 y3 y4 x5 x6 ((cA τ (w + 1) x6.toNatClampNeg) - (1000 : Int32)) o h hk _ _ _ hw (lv_sub hl [3, 4, 5, 6, 7, 1, 2, 0] rfl)
      · have h := ite_t h hc
        refine lv_iload hx hb d_X5_value_36 (lv_at hl 1 rfl) ?_
        refine lv_iconst (v := (1 : Int32)) hx hb d_X5_value_38 (by decide) ?_
        refine lv_icmp_ge (tgt := 44) hx hb d_X5_value_39 (by decide) (fun hc => ?_) (fun hc => ?_)
        · have h := ite_t h hc
          refine lv_aload_n hx hb d_X5_value_44 rfl (lv_at hl 3 rfl) ?_
          refine r_getr (j := 8) X hw ct2 ow0_w rfl (Nat.le_of_ble_eq_true rfl) (q := (w + 4)) (rt_law hw_w).2.2.2 wd_244 d_X5_value_45 ?_
          refine lv_iload hx hb d_X5_value_48 (lv_at hl 1 rfl) ?_
          refine lv_iconst (v := (1 : Int32)) hx hb d_X5_value_50 (by decide) ?_
          refine lv_isub hx hb d_X5_value_51 ?_
          refine lv_aload_n hx hb d_X5_value_52 rfl (lv_at hl 3 rfl) ?_
          refine r_getr (j := 8) X hw ct2 ow0_w rfl (Nat.le_of_ble_eq_true rfl) (q := (w + 4)) (rt_law hw_w).2.2.2 wd_244 d_X5_value_53 ?_
          refine lv_iload hx hb d_X5_value_56 (lv_at hl 1 rfl) ?_
          refine lv_iconst (v := (1 : Int32)) hx hb d_X5_value_58 (by decide) ?_
          refine lv_isub hx hb d_X5_value_59 ?_
          obtain ⟨hi11, h⟩ := gd_some h
          refine r_iald X hw ow4_w lw4_w hi11 d_X5_value_60 ?_
          refine lv_ineg hx hb d_X5_value_61 ?_
          obtain ⟨hi12, h⟩ := gd_some h
          refine r_iast X hw ow4_w lw4_w hi12 d_X5_value_62 (fun H locs hw => ?_)
          refine lv_goto (tgt := 166) hx hb d_X5_value_63 (by decide) ?_
          exact j166_6 (sA τ (w + 4) (x5 - (1 : Int32)).toNatClampNeg (-(cA τ (w + 4) (x5 - (1 : Int32)).toNatClampNeg))) y2 y3 y4 x5 x6 o h hk _ _ _ hw (lv_sub hl [3, 4, 5, 6, 7, 1, 2] rfl)
        · have h := ite_f h hc
          refine lv_iconst (v := (0 : Int32)) hx hb d_X5_value_42 (by decide) ?_
          obtain rfl := Option.some.inj h
          cases (show _ = q from hk)
          subst hQ
          exact r_iret X hr hlk hw d_X5_value_43
  intro H locs ls hw hl
  have hl : lv_has ls 8 [(0, .ref (ga G w)), (1, .ref (ga G b1)), (2, .int a2), (3, .int a3), (4, .int a4)] := hl
  unfold f_X5_value at h
  refine lv_iconst (v := (0 : Int32)) hx hb d_X5_value_0 (by decide) ?_
  refine lv_istore (lv' := [(5, .int (0 : Int32)), (0, .ref (ga G w)), (1, .ref (ga G b1)), (2, .int a2), (3, .int a3), (4, .int a4)]) hx hb d_X5_value_1 hl (Nat.le_of_ble_eq_true rfl) rfl (fun ls hl => ?_)
  refine lv_iconst (v := (0 : Int32)) hx hb d_X5_value_3 (by decide) ?_
  refine lv_istore (lv' := [(6, .int (0 : Int32)), (5, .int (0 : Int32)), (0, .ref (ga G w)), (1, .ref (ga G b1)), (2, .int a2), (3, .int a3), (4, .int a4)]) hx hb d_X5_value_4 hl (Nat.le_of_ble_eq_true rfl) rfl (fun ls hl => ?_)
  obtain ⟨z13, e14, h⟩ := bd_some h
  refine iter_w (Wh := fun z : Int32 × Int32 × St => Wat p l e (rmk 2 47) s m args below meth c Q G 8 6 [] [(5, .int z.1), (6, .int z.2.1), (0, .ref (ga G w)), (1, .ref (ga G b1)), (2, .int a2), (3, .int a3), (4, .int a4)] z.2.2 σ) (K := Sum.elim (fun r : Int32 × St => r = q) (fun z : Int32 × St => Wat p l e (rmk 2 47) s m args below meth c Q G 8 172 [] [(0, .ref (ga G w)), (5, .int z.1)] z.2 σ)) (fun z o h1 h2 => b6 z.2.2 a2 a3 a4 z.1 z.2.1 o h1 h2) FU _ _ e14 ?_ _ _ _ hw (lv_sub hl [1, 0, 2, 3, 4, 5, 6] rfl)
  rcases z13 with r | z13
  · exact Option.some.inj h
  · dsimp only [Sum.elim_inr] at h ⊢
    intro H locs ls hw hl
    refine lv_iload hx hb d_X5_value_172 (lv_at hl 1 rfl) ?_
    refine lv_iconst (v := (1 : Int32)) hx hb d_X5_value_174 (by decide) ?_
    refine lv_icmp_ne (tgt := 187) hx hb d_X5_value_175 (by decide) (fun hc => ?_) (fun hc => ?_)
    · have h := ite_f h hc
      refine lv_iconst (v := (0 : Int32)) hx hb d_X5_value_187 (by decide) ?_
      obtain rfl := Option.some.inj h
      subst hQ
      exact r_iret X hr hlk hw d_X5_value_188
    · have h := ite_t h hc
      refine lv_aload_n hx hb d_X5_value_178 rfl (lv_at hl 0 rfl) ?_
      refine r_getr (j := 8) X hw ct2 ow0_w rfl (Nat.le_of_ble_eq_true rfl) (q := (w + 4)) (rt_law hw_w).2.2.2 wd_244 d_X5_value_179 ?_
      refine lv_iconst (v := (0 : Int32)) hx hb d_X5_value_182 (by decide) ?_
      obtain ⟨hi16, h⟩ := gd_some h
      refine r_iald X hw ow4_w lw4_w hi16 d_X5_value_183 ?_
      refine lv_goto (tgt := 188) hx hb d_X5_value_184 (by decide) ?_
      obtain rfl := Option.some.inj h
      subst hQ
      exact r_iret X hr hlk hw d_X5_value_188
abbrev yX0_closes : MethodName := ⟨"OysterBeds$Bed", "closes", "(LOysterBeds$Law;III)Z"⟩
theorem mwX0_closes : MW yX0_closes prog_2_method_14_code 5 (some .boolean) 4 := ⟨wd_703, wd_4, by decide +kernel⟩
theorem d_X0_closes_0 : decode prog_2_method_14_code 0 = .ok (.aload_n 0, 1) := by decide +kernel
theorem d_X0_closes_1 : decode prog_2_method_14_code 1 = .ok (.iload_n 2, 1) := by decide +kernel
theorem d_X0_closes_2 : decode prog_2_method_14_code 2 = .ok (.invokevirtual 50, 3) := by decide +kernel
theorem d_X0_closes_5 : decode prog_2_method_14_code 5 = .ok (.ifCond .eq 28, 3) := by decide +kernel
theorem d_X0_closes_8 : decode prog_2_method_14_code 8 = .ok (.aload_n 0, 1) := by decide +kernel
theorem d_X0_closes_9 : decode prog_2_method_14_code 9 = .ok (.getfield 21, 3) := by decide +kernel
theorem d_X0_closes_12 : decode prog_2_method_14_code 12 = .ok (.iload_n 2, 1) := by decide +kernel
theorem d_X0_closes_13 : decode prog_2_method_14_code 13 = .ok (.iaload, 1) := by decide +kernel
theorem d_X0_closes_14 : decode prog_2_method_14_code 14 = .ok (.ifCond .ne 19, 3) := by decide +kernel
theorem d_X0_closes_17 : decode prog_2_method_14_code 17 = .ok (.aload_n 1, 1) := by decide +kernel
theorem d_X0_closes_18 : decode prog_2_method_14_code 18 = .ok (.aload_n 0, 1) := by decide +kernel
theorem d_X0_closes_19 : decode prog_2_method_14_code 19 = .ok (.iload_n 2, 1) := by decide +kernel
theorem d_X0_closes_20 : decode prog_2_method_14_code 20 = .ok (.iload_n 3, 1) := by decide +kernel
theorem d_X0_closes_21 : decode prog_2_method_14_code 21 = .ok (.iload 4, 2) := by decide +kernel
theorem d_X0_closes_23 : decode prog_2_method_14_code 23 = .ok (.invokevirtual 54, 3) := by decide +kernel
theorem d_X0_closes_26 : decode prog_2_method_14_code 26 = .ok (.ifCond .le 7, 3) := by decide +kernel
theorem d_X0_closes_29 : decode prog_2_method_14_code 29 = .ok (.iconst 1, 1) := by decide +kernel
theorem d_X0_closes_30 : decode prog_2_method_14_code 30 = .ok (.goto 4, 3) := by decide +kernel
theorem d_X0_closes_33 : decode prog_2_method_14_code 33 = .ok (.iconst 0, 1) := by decide +kernel
theorem d_X0_closes_34 : decode prog_2_method_14_code 34 = .ok (.ireturn, 1) := by decide +kernel
def f_X0_closes (χ : St) (b : Nat) (w1 : Nat) (a2 : Int32) (a3 : Int32) (a4 : Int32) : Option (Int32 × St) := (f_X0_has χ b a2).bind (fun q1 => (if q1 = 0 then some ((0 : Int32), χ) else gd (inb a2 8) ((if (cA χ (b + 4) a2.toNatClampNeg) = 0 then (f_X5_value χ w1 b a2 a3 a4).bind (fun q4 => some ((if q4.1 ≤ 0 then (0 : Int32) else (1 : Int32)), q4.2)) else some ((0 : Int32), χ)))))
theorem c_X0_closes {l : Launch} {G : gT} {χ σ : St} {b : Nat} {w1 : Nat} {a2 : Int32} {a3 : Int32} {a4 : Int32} (hf : FW G) (hb_b : isBed b = true) (hw_w1 : LW G w1) {q : Int32 × St} (h : f_X0_closes χ b w1 a2 a3 a4 = some q) : Ct l G yX0_closes prog_2_method_14_code 5 (some .boolean) 3 74 [.ref (ga G b), .ref (ga G w1), .int a2, .int a3, .int a4] χ σ (some (.int q.1)) q.2 σ := by
  obtain ⟨ob0_b, ob1_b, ob2_b, ob3_b, ob4_b, ob5_b, lb_b, -, -⟩ := bed_at hf hb_b
  have lb0_b : b < 300 := by omega
  have lb1_b : b + 1 < 300 := by omega
  have lb2_b : b + 2 < 300 := by omega
  have lb3_b : b + 3 < 300 := by omega
  have lb4_b : b + 4 < 300 := by omega
  have lb5_b : b + 5 < 300 := by omega
  obtain ⟨ow0_w1, ow1_w1, ow2_w1, ow3_w1, ow4_w1, lw_w1⟩ := law_at hw_w1
  have lw0_w1 : w1 < 300 := by omega
  have lw1_w1 : w1 + 1 < 300 := by omega
  have lw2_w1 : w1 + 2 < 300 := by omega
  have lw3_w1 : w1 + 3 < 300 := by omega
  have lw4_w1 : w1 + 4 < 300 := by omega
  refine Ct.of (by decide) (Nat.le_of_ble_eq_true rfl) ?_
  intro p e s m args below meth c Q X hr hlk hQ
  have hx := X.1
  have hb := X.2.1
  intro H locs ls hw hl
  have hl : lv_has ls 5 [(0, .ref (ga G b)), (1, .ref (ga G w1)), (2, .int a2), (3, .int a3), (4, .int a4)] := hl
  unfold f_X0_closes at h
  refine lv_aload_n hx hb d_X0_closes_0 rfl (lv_at hl 0 rfl) ?_
  refine lv_iload_n hx hb d_X0_closes_1 rfl (lv_at hl 2 rfl) ?_
  obtain ⟨q1, e2, h⟩ := bd_some h
  refine r_callV (As := [.int a2]) (rest := []) (st' := [.int q1]) X hw hl mwX0_has wd_409 wd_410 wd_459 (c_X0_has hf hb_b e2) (r_recv X hw ct0 ob0_b) rfl ⟨Nat.le_of_ble_eq_true rfl, Nat.le_of_ble_eq_true rfl⟩ ⟨Nat.le_refl _, Nat.le_refl _⟩ rfl rfl (Nat.le_of_ble_eq_true rfl) d_X0_closes_2 (fun H locs hw => ?_)
  refine lv_if_eq (tgt := 33) hx hb d_X0_closes_5 (by decide) (fun hc => ?_) (fun hc => ?_)
  · have h := ite_t h hc
    refine lv_iconst (v := (0 : Int32)) hx hb d_X0_closes_33 (by decide) ?_
    obtain rfl := Option.some.inj h
    subst hQ
    exact r_zret X hr nbz0 hlk hw d_X0_closes_34
  · have h := ite_f h hc
    refine lv_aload_n hx hb d_X0_closes_8 rfl (lv_at hl 0 rfl) ?_
    refine r_getr (j := 3) X hw ct0 ob0_b rfl (Nat.le_of_ble_eq_true rfl) (q := (b + 4)) (rt_bed hb_b) wd_83 d_X0_closes_9 ?_
    refine lv_iload_n hx hb d_X0_closes_12 rfl (lv_at hl 2 rfl) ?_
    obtain ⟨hi3, h⟩ := gd_some h
    refine r_iald X hw ob4_b lb4_b hi3 d_X0_closes_13 ?_
    refine lv_if_ne (tgt := 33) hx hb d_X0_closes_14 (by decide) (fun hc => ?_) (fun hc => ?_)
    · have h := ite_f h hc
      refine lv_iconst (v := (0 : Int32)) hx hb d_X0_closes_33 (by decide) ?_
      obtain rfl := Option.some.inj h
      subst hQ
      exact r_zret X hr nbz0 hlk hw d_X0_closes_34
    · have h := ite_t h hc
      refine lv_aload_n hx hb d_X0_closes_17 rfl (lv_at hl 1 rfl) ?_
      refine lv_aload_n hx hb d_X0_closes_18 rfl (lv_at hl 0 rfl) ?_
      refine lv_iload_n hx hb d_X0_closes_19 rfl (lv_at hl 2 rfl) ?_
      refine lv_iload_n hx hb d_X0_closes_20 rfl (lv_at hl 3 rfl) ?_
      refine lv_iload hx hb d_X0_closes_21 (lv_at hl 4 rfl) ?_
      obtain ⟨q4, e5, h⟩ := bd_some h
      refine r_callV (As := [.ref (ga G b), .int a2, .int a3, .int a4]) (rest := []) (st' := [.int q4.1]) X hw hl mwX5_value wd_402 wd_403 wd_401 (c_X5_value hf hw_w1 hb_b e5) (r_recv X hw ct2 ow0_w1) rfl ⟨Nat.le_of_ble_eq_true rfl, Nat.le_of_ble_eq_true rfl⟩ ⟨Nat.le_refl _, Nat.le_refl _⟩ rfl rfl (Nat.le_of_ble_eq_true rfl) d_X0_closes_23 (fun H locs hw => ?_)
      refine lv_if_le (tgt := 33) hx hb d_X0_closes_26 (by decide) (fun hc => ?_) (fun hc => ?_)
      · simp only [if_pos hc] at h
        refine lv_iconst (v := (0 : Int32)) hx hb d_X0_closes_33 (by decide) ?_
        obtain rfl := Option.some.inj h
        subst hQ
        exact r_zret X hr nbz0 hlk hw d_X0_closes_34
      · simp only [if_neg hc] at h
        refine lv_iconst (v := (1 : Int32)) hx hb d_X0_closes_29 (by decide) ?_
        refine lv_goto (tgt := 34) hx hb d_X0_closes_30 (by decide) ?_
        obtain rfl := Option.some.inj h
        subst hQ
        exact r_zret X hr nbz1 hlk hw d_X0_closes_34
abbrev yX0_closing : MethodName := ⟨"OysterBeds$Bed", "closing", "(LOysterBeds$Law;II)I"⟩
theorem mwX0_closing : MW yX0_closing prog_2_method_15_code 6 (some .int) 3 := ⟨wd_400, wd_4, by decide +kernel⟩
theorem d_X0_closing_0 : decode prog_2_method_15_code 0 = .ok (.iconst 0, 1) := by decide +kernel
theorem d_X0_closing_1 : decode prog_2_method_15_code 1 = .ok (.istore 4, 2) := by decide +kernel
theorem d_X0_closing_3 : decode prog_2_method_15_code 3 = .ok (.iconst 0, 1) := by decide +kernel
theorem d_X0_closing_4 : decode prog_2_method_15_code 4 = .ok (.istore 5, 2) := by decide +kernel
theorem d_X0_closing_6 : decode prog_2_method_15_code 6 = .ok (.iload 5, 2) := by decide +kernel
theorem d_X0_closing_8 : decode prog_2_method_15_code 8 = .ok (.aload_n 0, 1) := by decide +kernel
theorem d_X0_closing_9 : decode prog_2_method_15_code 9 = .ok (.getfield 27, 3) := by decide +kernel
theorem d_X0_closing_12 : decode prog_2_method_15_code 12 = .ok (.if_icmp .ge 50, 3) := by decide +kernel
theorem d_X0_closing_15 : decode prog_2_method_15_code 15 = .ok (.aload_n 0, 1) := by decide +kernel
theorem d_X0_closing_16 : decode prog_2_method_15_code 16 = .ok (.getfield 21, 3) := by decide +kernel
theorem d_X0_closing_19 : decode prog_2_method_15_code 19 = .ok (.iload 5, 2) := by decide +kernel
theorem d_X0_closing_21 : decode prog_2_method_15_code 21 = .ok (.iaload, 1) := by decide +kernel
theorem d_X0_closing_22 : decode prog_2_method_15_code 22 = .ok (.ifCond .ne 34, 3) := by decide +kernel
theorem d_X0_closing_25 : decode prog_2_method_15_code 25 = .ok (.aload_n 1, 1) := by decide +kernel
theorem d_X0_closing_26 : decode prog_2_method_15_code 26 = .ok (.aload_n 0, 1) := by decide +kernel
theorem d_X0_closing_27 : decode prog_2_method_15_code 27 = .ok (.iload 5, 2) := by decide +kernel
theorem d_X0_closing_29 : decode prog_2_method_15_code 29 = .ok (.aload_n 0, 1) := by decide +kernel
theorem d_X0_closing_30 : decode prog_2_method_15_code 30 = .ok (.getfield 18, 3) := by decide +kernel
theorem d_X0_closing_33 : decode prog_2_method_15_code 33 = .ok (.iload 5, 2) := by decide +kernel
theorem d_X0_closing_35 : decode prog_2_method_15_code 35 = .ok (.iaload, 1) := by decide +kernel
theorem d_X0_closing_36 : decode prog_2_method_15_code 36 = .ok (.iload_n 2, 1) := by decide +kernel
theorem d_X0_closing_37 : decode prog_2_method_15_code 37 = .ok (.ishr, 1) := by decide +kernel
theorem d_X0_closing_38 : decode prog_2_method_15_code 38 = .ok (.iconst 1, 1) := by decide +kernel
theorem d_X0_closing_39 : decode prog_2_method_15_code 39 = .ok (.iand, 1) := by decide +kernel
theorem d_X0_closing_40 : decode prog_2_method_15_code 40 = .ok (.iload_n 3, 1) := by decide +kernel
theorem d_X0_closing_41 : decode prog_2_method_15_code 41 = .ok (.invokevirtual 54, 3) := by decide +kernel
theorem d_X0_closing_44 : decode prog_2_method_15_code 44 = .ok (.ifCond .le 12, 3) := by decide +kernel
theorem d_X0_closing_47 : decode prog_2_method_15_code 47 = .ok (.iload 4, 2) := by decide +kernel
theorem d_X0_closing_49 : decode prog_2_method_15_code 49 = .ok (.iconst 1, 1) := by decide +kernel
theorem d_X0_closing_50 : decode prog_2_method_15_code 50 = .ok (.iload 5, 2) := by decide +kernel
theorem d_X0_closing_52 : decode prog_2_method_15_code 52 = .ok (.ishl, 1) := by decide +kernel
theorem d_X0_closing_53 : decode prog_2_method_15_code 53 = .ok (.ior, 1) := by decide +kernel
theorem d_X0_closing_54 : decode prog_2_method_15_code 54 = .ok (.istore 4, 2) := by decide +kernel
theorem d_X0_closing_56 : decode prog_2_method_15_code 56 = .ok (.iinc 5 1, 3) := by decide +kernel
theorem d_X0_closing_59 : decode prog_2_method_15_code 59 = .ok (.goto (-53), 3) := by decide +kernel
theorem d_X0_closing_62 : decode prog_2_method_15_code 62 = .ok (.iload 4, 2) := by decide +kernel
theorem d_X0_closing_64 : decode prog_2_method_15_code 64 = .ok (.ireturn, 1) := by decide +kernel
def f_X0_closing_j56_6 (b : Nat) (w1 : Nat) (τ : St) (x2 : Int32) (x3 : Int32) (x4 : Int32) (x5 : Int32) : Option ((Int32 × Int32 × St) ⊕ (Int32 × St)) := some (.inl (x4, (x5 + (1 : Int32)), τ))
def f_X0_closing_s6 (b : Nat) (w1 : Nat) (τ : St) (y2 : Int32) (y3 : Int32) (x4 : Int32) (x5 : Int32) : Option ((Int32 × Int32 × St) ⊕ (Int32 × St)) := (if (cF τ b 5) ≤ x5 then some (.inr (x4, τ)) else gd (inb x5 8) ((if (cA τ (b + 4) x5.toNatClampNeg) = 0 then gd (inb x5 8) ((f_X5_value τ w1 b x5 (((cA τ (b + 3) x5.toNatClampNeg) >>> (y2 &&& 31)) &&& (1 : Int32)) y3).bind (fun q3 => f_X0_closing_j56_6 b w1 q3.2 y2 y3 (if q3.1 ≤ 0 then x4 else (x4 ||| ((1 : Int32) <<< (x5 &&& 31)))) x5)) else f_X0_closing_j56_6 b w1 τ y2 y3 x4 x5)))
def f_X0_closing (χ : St) (b : Nat) (w1 : Nat) (a2 : Int32) (a3 : Int32) : Option (Int32 × St) := (iter (fun z => f_X0_closing_s6 b w1 z.2.2 a2 a3 z.1 z.2.1) FU ((0 : Int32), (0 : Int32), χ)).bind (fun z5 => some (z5.1, z5.2))
theorem c_X0_closing {l : Launch} {G : gT} {χ σ : St} {b : Nat} {w1 : Nat} {a2 : Int32} {a3 : Int32} (hf : FW G) (hb_b : isBed b = true) (hw_w1 : LW G w1) {q : Int32 × St} (h : f_X0_closing χ b w1 a2 a3 = some q) : Ct l G yX0_closing prog_2_method_15_code 6 (some .int) 3 74 [.ref (ga G b), .ref (ga G w1), .int a2, .int a3] χ σ (some (.int q.1)) q.2 σ := by
  obtain ⟨ob0_b, ob1_b, ob2_b, ob3_b, ob4_b, ob5_b, lb_b, -, -⟩ := bed_at hf hb_b
  have lb0_b : b < 300 := by omega
  have lb1_b : b + 1 < 300 := by omega
  have lb2_b : b + 2 < 300 := by omega
  have lb3_b : b + 3 < 300 := by omega
  have lb4_b : b + 4 < 300 := by omega
  have lb5_b : b + 5 < 300 := by omega
  obtain ⟨ow0_w1, ow1_w1, ow2_w1, ow3_w1, ow4_w1, lw_w1⟩ := law_at hw_w1
  have lw0_w1 : w1 < 300 := by omega
  have lw1_w1 : w1 + 1 < 300 := by omega
  have lw2_w1 : w1 + 2 < 300 := by omega
  have lw3_w1 : w1 + 3 < 300 := by omega
  have lw4_w1 : w1 + 4 < 300 := by omega
  refine Ct.of (by decide) (Nat.le_of_ble_eq_true rfl) ?_
  intro p e s m args below meth c Q X hr hlk hQ
  have hx := X.1
  have hb := X.2.1
  have j56_6 : ∀ (τ : St) (x2 : Int32) (x3 : Int32) (x4 : Int32) (x5 : Int32) (o : (Int32 × Int32 × St) ⊕ (Int32 × St)), f_X0_closing_j56_6 b w1 τ x2 x3 x4 x5 = some o → Sum.elim (fun z : Int32 × Int32 × St => Wat p l e (rmk 3 74) s m args below meth c Q G 6 6 [] [(4, .int z.1), (5, .int z.2.1), (0, .ref (ga G b)), (1, .ref (ga G w1)), (2, .int x2), (3, .int x3)] z.2.2 σ) (fun z : Int32 × St => Wat p l e (rmk 3 74) s m args below meth c Q G 6 62 [] [(4, .int z.1)] z.2 σ) o → Wat p l e (rmk 3 74) s m args below meth c Q G 6 56 [] [(0, .ref (ga G b)), (1, .ref (ga G w1)), (2, .int x2), (3, .int x3), (4, .int x4), (5, .int x5)] τ σ := by
    intro τ x2 x3 x4 x5 o h hk H locs ls hw hl
    unfold f_X0_closing_j56_6 at h
    refine lv_iinc (v := (x5 + (1 : Int32))) (k := 5) (lv' := [(5, .int (x5 + (1 : Int32))), (0, .ref (ga G b)), (1, .ref (ga G w1)), (2, .int x2), (3, .int x3), (4, .int x4)]) hx hb d_X0_closing_56 hl rfl (by rfl) (Nat.le_of_ble_eq_true rfl) rfl (fun ls hl => ?_)
    refine lv_goto (tgt := 6) hx hb d_X0_closing_59 (by decide) ?_
    obtain rfl := Option.some.inj h
    dsimp only [Sum.elim_inl] at hk
    exact hk _ _ _ hw (lv_sub hl [5, 0, 1, 2, 3, 4] rfl)
  have b6 : ∀ (τ : St) (y2 : Int32) (y3 : Int32) (x4 : Int32) (x5 : Int32) (o : (Int32 × Int32 × St) ⊕ (Int32 × St)), f_X0_closing_s6 b w1 τ y2 y3 x4 x5 = some o → Sum.elim (fun z : Int32 × Int32 × St => Wat p l e (rmk 3 74) s m args below meth c Q G 6 6 [] [(4, .int z.1), (5, .int z.2.1), (0, .ref (ga G b)), (1, .ref (ga G w1)), (2, .int y2), (3, .int y3)] z.2.2 σ) (fun z : Int32 × St => Wat p l e (rmk 3 74) s m args below meth c Q G 6 62 [] [(4, .int z.1)] z.2 σ) o → Wat p l e (rmk 3 74) s m args below meth c Q G 6 6 [] [(4, .int x4), (5, .int x5), (0, .ref (ga G b)), (1, .ref (ga G w1)), (2, .int y2), (3, .int y3)] τ σ := by
    intro τ y2 y3 x4 x5 o h hk H locs ls hw hl
    unfold f_X0_closing_s6 at h
    refine lv_iload hx hb d_X0_closing_6 (lv_at hl 1 rfl) ?_
    refine lv_aload_n hx hb d_X0_closing_8 rfl (lv_at hl 2 rfl) ?_
    refine r_geti (j := 5) X hw ct0 ob0_b lb0_b rfl (Nat.le_of_ble_eq_true rfl) wd_91 d_X0_closing_9 ?_
    refine lv_icmp_ge (tgt := 62) hx hb d_X0_closing_12 (by decide) (fun hc => ?_) (fun hc => ?_)
    · have h := ite_t h hc
      obtain rfl := Option.some.inj h
      dsimp only [Sum.elim_inr] at hk
      exact hk _ _ _ hw (lv_sub hl [0] rfl)
    · have h := ite_f h hc
      refine lv_aload_n hx hb d_X0_closing_15 rfl (lv_at hl 2 rfl) ?_
      refine r_getr (j := 3) X hw ct0 ob0_b rfl (Nat.le_of_ble_eq_true rfl) (q := (b + 4)) (rt_bed hb_b) wd_83 d_X0_closing_16 ?_
      refine lv_iload hx hb d_X0_closing_19 (lv_at hl 1 rfl) ?_
      obtain ⟨hi1, h⟩ := gd_some h
      refine r_iald X hw ob4_b lb4_b hi1 d_X0_closing_21 ?_
      refine lv_if_ne (tgt := 56) hx hb d_X0_closing_22 (by decide) (fun hc => ?_) (fun hc => ?_)
      · have h := ite_f h hc
        exact j56_6 τ y2 y3 x4 x5 o h hk _ _ _ hw (lv_sub hl [2, 3, 4, 5, 0, 1] rfl)
      · have h := ite_t h hc
        refine lv_aload_n hx hb d_X0_closing_25 rfl (lv_at hl 3 rfl) ?_
        refine lv_aload_n hx hb d_X0_closing_26 rfl (lv_at hl 2 rfl) ?_
        refine lv_iload hx hb d_X0_closing_27 (lv_at hl 1 rfl) ?_
        refine lv_aload_n hx hb d_X0_closing_29 rfl (lv_at hl 2 rfl) ?_
        refine r_getr (j := 2) X hw ct0 ob0_b rfl (Nat.le_of_ble_eq_true rfl) (q := (b + 3)) (rt_bed hb_b) wd_79 d_X0_closing_30 ?_
        refine lv_iload hx hb d_X0_closing_33 (lv_at hl 1 rfl) ?_
        obtain ⟨hi2, h⟩ := gd_some h
        refine r_iald X hw ob3_b lb3_b hi2 d_X0_closing_35 ?_
        refine lv_iload_n hx hb d_X0_closing_36 rfl (lv_at hl 4 rfl) ?_
        refine lv_ishr hx hb d_X0_closing_37 ?_
        refine lv_iconst (v := (1 : Int32)) hx hb d_X0_closing_38 (by decide) ?_
        refine lv_iand hx hb d_X0_closing_39 ?_
        refine lv_iload_n hx hb d_X0_closing_40 rfl (lv_at hl 5 rfl) ?_
        obtain ⟨q3, e4, h⟩ := bd_some h
        refine r_callV (As := [.ref (ga G b), .int x5, .int (((cA τ (b + 3) x5.toNatClampNeg) >>> (y2 &&& 31)) &&& (1 : Int32)), .int y3]) (rest := []) (st' := [.int q3.1]) X hw hl mwX5_value wd_402 wd_403 wd_401 (c_X5_value hf hw_w1 hb_b e4) (r_recv X hw ct2 ow0_w1) rfl ⟨Nat.le_of_ble_eq_true rfl, Nat.le_of_ble_eq_true rfl⟩ ⟨Nat.le_refl _, Nat.le_refl _⟩ rfl rfl (Nat.le_of_ble_eq_true rfl) d_X0_closing_41 (fun H locs hw => ?_)
        refine lv_if_le (tgt := 56) hx hb d_X0_closing_44 (by decide) (fun hc => ?_) (fun hc => ?_)
        · simp only [if_pos hc] at h
          exact j56_6 q3.2 y2 y3 x4 x5 o h hk _ _ _ hw (lv_sub hl [2, 3, 4, 5, 0, 1] rfl)
        · simp only [if_neg hc] at h
          refine lv_iload hx hb d_X0_closing_47 (lv_at hl 0 rfl) ?_
          refine lv_iconst (v := (1 : Int32)) hx hb d_X0_closing_49 (by decide) ?_
          refine lv_iload hx hb d_X0_closing_50 (lv_at hl 1 rfl) ?_
          refine lv_ishl hx hb d_X0_closing_52 ?_
          refine lv_ior hx hb d_X0_closing_53 ?_
          refine lv_istore (lv' := [(4, .int (x4 ||| ((1 : Int32) <<< (x5 &&& 31)))), (5, .int x5), (0, .ref (ga G b)), (1, .ref (ga G w1)), (2, .int y2), (3, .int y3)]) hx hb d_X0_closing_54 hl (Nat.le_of_ble_eq_true rfl) rfl (fun ls hl => ?_)
          exact j56_6 q3.2 y2 y3 (x4 ||| ((1 : Int32) <<< (x5 &&& 31))) x5 o h hk _ _ _ hw (lv_sub hl [2, 3, 4, 5, 0, 1] rfl)
  intro H locs ls hw hl
  have hl : lv_has ls 6 [(0, .ref (ga G b)), (1, .ref (ga G w1)), (2, .int a2), (3, .int a3)] := hl
  unfold f_X0_closing at h
  refine lv_iconst (v := (0 : Int32)) hx hb d_X0_closing_0 (by decide) ?_
  refine lv_istore (lv' := [(4, .int (0 : Int32)), (0, .ref (ga G b)), (1, .ref (ga G w1)), (2, .int a2), (3, .int a3)]) hx hb d_X0_closing_1 hl (Nat.le_of_ble_eq_true rfl) rfl (fun ls hl => ?_)
  refine lv_iconst (v := (0 : Int32)) hx hb d_X0_closing_3 (by decide) ?_
  refine lv_istore (lv' := [(5, .int (0 : Int32)), (4, .int (0 : Int32)), (0, .ref (ga G b)), (1, .ref (ga G w1)), (2, .int a2), (3, .int a3)]) hx hb d_X0_closing_4 hl (Nat.le_of_ble_eq_true rfl) rfl (fun ls hl => ?_)
  obtain ⟨z5, e6, h⟩ := bd_some h
  refine iter_w (Wh := fun z : Int32 × Int32 × St => Wat p l e (rmk 3 74) s m args below meth c Q G 6 6 [] [(4, .int z.1), (5, .int z.2.1), (0, .ref (ga G b)), (1, .ref (ga G w1)), (2, .int a2), (3, .int a3)] z.2.2 σ) (K := fun z : Int32 × St => Wat p l e (rmk 3 74) s m args below meth c Q G 6 62 [] [(4, .int z.1)] z.2 σ) (fun z o h1 h2 => b6 z.2.2 a2 a3 z.1 z.2.1 o h1 h2) FU _ _ e6 ?_ _ _ _ hw (lv_sub hl [1, 0, 2, 3, 4, 5] rfl)
  intro H locs ls hw hl
  refine lv_iload hx hb d_X0_closing_62 (lv_at hl 0 rfl) ?_
  obtain rfl := Option.some.inj h
  subst hQ
  exact r_iret X hr hlk hw d_X0_closing_64
abbrev yX0_closings : MethodName := ⟨"OysterBeds$Bed", "closings", "(LOysterBeds$Law;)I"⟩
theorem mwX0_closings : MW yX0_closings prog_2_method_16_code 4 (some .int) 1 := ⟨wd_815, wd_4, by decide +kernel⟩
theorem d_X0_closings_0 : decode prog_2_method_16_code 0 = .ok (.iconst 0, 1) := by decide +kernel
theorem d_X0_closings_1 : decode prog_2_method_16_code 1 = .ok (.istore_n 2, 1) := by decide +kernel
theorem d_X0_closings_2 : decode prog_2_method_16_code 2 = .ok (.iconst 0, 1) := by decide +kernel
theorem d_X0_closings_3 : decode prog_2_method_16_code 3 = .ok (.istore_n 3, 1) := by decide +kernel
theorem d_X0_closings_4 : decode prog_2_method_16_code 4 = .ok (.iload_n 3, 1) := by decide +kernel
theorem d_X0_closings_5 : decode prog_2_method_16_code 5 = .ok (.bipush 40, 2) := by decide +kernel
theorem d_X0_closings_7 : decode prog_2_method_16_code 7 = .ok (.if_icmp .ge 28, 3) := by decide +kernel
theorem d_X0_closings_10 : decode prog_2_method_16_code 10 = .ok (.iload_n 2, 1) := by decide +kernel
theorem d_X0_closings_11 : decode prog_2_method_16_code 11 = .ok (.aload_n 0, 1) := by decide +kernel
theorem d_X0_closings_12 : decode prog_2_method_16_code 12 = .ok (.aload_n 1, 1) := by decide +kernel
theorem d_X0_closings_13 : decode prog_2_method_16_code 13 = .ok (.iload_n 3, 1) := by decide +kernel
theorem d_X0_closings_14 : decode prog_2_method_16_code 14 = .ok (.bipush 10, 2) := by decide +kernel
theorem d_X0_closings_16 : decode prog_2_method_16_code 16 = .ok (.idiv, 1) := by decide +kernel
theorem d_X0_closings_17 : decode prog_2_method_16_code 17 = .ok (.iload_n 3, 1) := by decide +kernel
theorem d_X0_closings_18 : decode prog_2_method_16_code 18 = .ok (.bipush 10, 2) := by decide +kernel
theorem d_X0_closings_20 : decode prog_2_method_16_code 20 = .ok (.irem, 1) := by decide +kernel
theorem d_X0_closings_21 : decode prog_2_method_16_code 21 = .ok (.invokevirtual 60, 3) := by decide +kernel
theorem d_X0_closings_24 : decode prog_2_method_16_code 24 = .ok (.invokestatic 64, 3) := by decide +kernel
theorem d_X0_closings_27 : decode prog_2_method_16_code 27 = .ok (.iadd, 1) := by decide +kernel
theorem d_X0_closings_28 : decode prog_2_method_16_code 28 = .ok (.istore_n 2, 1) := by decide +kernel
theorem d_X0_closings_29 : decode prog_2_method_16_code 29 = .ok (.iinc 3 1, 3) := by decide +kernel
theorem d_X0_closings_32 : decode prog_2_method_16_code 32 = .ok (.goto (-28), 3) := by decide +kernel
theorem d_X0_closings_35 : decode prog_2_method_16_code 35 = .ok (.iload_n 2, 1) := by decide +kernel
theorem d_X0_closings_36 : decode prog_2_method_16_code 36 = .ok (.ireturn, 1) := by decide +kernel
def f_X0_closings_s4 (b : Nat) (w1 : Nat) (τ : St) (x2 : Int32) (x3 : Int32) : Option ((Int32 × Int32 × St) ⊕ (Int32 × St)) := (if (40 : Int32) ≤ x3 then some (.inr (x2, τ)) else (f_X0_closing τ b w1 (x3 / (10 : Int32)) (x3 - x3 / (10 : Int32) * (10 : Int32))).bind (fun q1 => (f_J6_bitCount_0f7a4 q1.1).bind (fun q3 => some (.inl ((x2 + q3), (x3 + (1 : Int32)), q1.2)))))
def f_X0_closings (χ : St) (b : Nat) (w1 : Nat) : Option (Int32 × St) := (iter (fun z => f_X0_closings_s4 b w1 z.2.2 z.1 z.2.1) FU ((0 : Int32), (0 : Int32), χ)).bind (fun z5 => some (z5.1, z5.2))
theorem c_X0_closings {l : Launch} {G : gT} {χ σ : St} {b : Nat} {w1 : Nat} (hf : FW G) (hb_b : isBed b = true) (hw_w1 : LW G w1) {q : Int32 × St} (h : f_X0_closings χ b w1 = some q) : Ct l G yX0_closings prog_2_method_16_code 4 (some .int) 4 99 [.ref (ga G b), .ref (ga G w1)] χ σ (some (.int q.1)) q.2 σ := by
  obtain ⟨ob0_b, ob1_b, ob2_b, ob3_b, ob4_b, ob5_b, lb_b, -, -⟩ := bed_at hf hb_b
  have lb0_b : b < 300 := by omega
  have lb1_b : b + 1 < 300 := by omega
  have lb2_b : b + 2 < 300 := by omega
  have lb3_b : b + 3 < 300 := by omega
  have lb4_b : b + 4 < 300 := by omega
  have lb5_b : b + 5 < 300 := by omega
  obtain ⟨ow0_w1, ow1_w1, ow2_w1, ow3_w1, ow4_w1, lw_w1⟩ := law_at hw_w1
  have lw0_w1 : w1 < 300 := by omega
  have lw1_w1 : w1 + 1 < 300 := by omega
  have lw2_w1 : w1 + 2 < 300 := by omega
  have lw3_w1 : w1 + 3 < 300 := by omega
  have lw4_w1 : w1 + 4 < 300 := by omega
  refine Ct.of (by decide) (Nat.le_of_ble_eq_true rfl) ?_
  intro p e s m args below meth c Q X hr hlk hQ
  have hx := X.1
  have hb := X.2.1
  have b4 : ∀ (τ : St) (x2 : Int32) (x3 : Int32) (o : (Int32 × Int32 × St) ⊕ (Int32 × St)), f_X0_closings_s4 b w1 τ x2 x3 = some o → Sum.elim (fun z : Int32 × Int32 × St => Wat p l e (rmk 4 99) s m args below meth c Q G 4 4 [] [(2, .int z.1), (3, .int z.2.1), (0, .ref (ga G b)), (1, .ref (ga G w1))] z.2.2 σ) (fun z : Int32 × St => Wat p l e (rmk 4 99) s m args below meth c Q G 4 35 [] [(2, .int z.1)] z.2 σ) o → Wat p l e (rmk 4 99) s m args below meth c Q G 4 4 [] [(2, .int x2), (3, .int x3), (0, .ref (ga G b)), (1, .ref (ga G w1))] τ σ := by
    intro τ x2 x3 o h hk H locs ls hw hl
    unfold f_X0_closings_s4 at h
    refine lv_iload_n hx hb d_X0_closings_4 rfl (lv_at hl 1 rfl) ?_
    refine lv_bipush (v := (40 : Int32)) hx hb d_X0_closings_5 (by decide) ?_
    refine lv_icmp_ge (tgt := 35) hx hb d_X0_closings_7 (by decide) (fun hc => ?_) (fun hc => ?_)
    · have h := ite_t h hc
      obtain rfl := Option.some.inj h
      dsimp only [Sum.elim_inr] at hk
      exact hk _ _ _ hw (lv_sub hl [0] rfl)
    · have h := ite_f h hc
      refine lv_iload_n hx hb d_X0_closings_10 rfl (lv_at hl 0 rfl) ?_
      refine lv_aload_n hx hb d_X0_closings_11 rfl (lv_at hl 2 rfl) ?_
      refine lv_aload_n hx hb d_X0_closings_12 rfl (lv_at hl 3 rfl) ?_
      refine lv_iload_n hx hb d_X0_closings_13 rfl (lv_at hl 1 rfl) ?_
      refine lv_bipush (v := (10 : Int32)) hx hb d_X0_closings_14 (by decide) ?_
      refine lv_idiv hx hb d_X0_closings_16 (by decide) ?_
      refine lv_iload_n hx hb d_X0_closings_17 rfl (lv_at hl 1 rfl) ?_
      refine lv_bipush (v := (10 : Int32)) hx hb d_X0_closings_18 (by decide) ?_
      refine lv_irem hx hb d_X0_closings_20 (by decide) ?_
      obtain ⟨q1, e2, h⟩ := bd_some h
      refine r_callV (As := [.ref (ga G w1), .int (x3 / (10 : Int32)), .int (x3 - x3 / (10 : Int32) * (10 : Int32))]) (rest := [.int x2]) (st' := [.int q1.1, .int x2]) X hw hl mwX0_closing wd_398 wd_399 wd_397 (c_X0_closing hf hb_b hw_w1 e2) (r_recv X hw ct0 ob0_b) rfl ⟨Nat.le_of_ble_eq_true rfl, Nat.le_of_ble_eq_true rfl⟩ ⟨Nat.le_refl _, Nat.le_refl _⟩ rfl rfl (Nat.le_of_ble_eq_true rfl) d_X0_closings_21 (fun H locs hw => ?_)
      obtain ⟨q3, e4, h⟩ := bd_some h
      refine r_callS (As := [.int q1.1]) (rest := [.int x2]) (st' := [.int q3, .int x2]) X hw hl mwJ6_bitCount_0f7a4 wd_436 wd_816 (c_J6_bitCount_0f7a4 e4) rfl ⟨Nat.le_of_ble_eq_true rfl, Nat.le_of_ble_eq_true rfl⟩ ⟨Nat.le_refl _, Nat.le_refl _⟩ rfl rfl (Nat.le_of_ble_eq_true rfl) d_X0_closings_24 (fun H locs hw => ?_)
      refine lv_iadd hx hb d_X0_closings_27 ?_
      refine lv_istore_n (lv' := [(2, .int (x2 + q3)), (3, .int x3), (0, .ref (ga G b)), (1, .ref (ga G w1))]) hx hb d_X0_closings_28 rfl hl (Nat.le_of_ble_eq_true rfl) rfl (fun ls hl => ?_)
      refine lv_iinc (v := (x3 + (1 : Int32))) (k := 1) (lv' := [(3, .int (x3 + (1 : Int32))), (2, .int (x2 + q3)), (0, .ref (ga G b)), (1, .ref (ga G w1))]) hx hb d_X0_closings_29 hl rfl (by rfl) (Nat.le_of_ble_eq_true rfl) rfl (fun ls hl => ?_)
      refine lv_goto (tgt := 4) hx hb d_X0_closings_32 (by decide) ?_
      obtain rfl := Option.some.inj h
      dsimp only [Sum.elim_inl] at hk
      exact hk _ _ _ hw (lv_sub hl [1, 0, 2, 3] rfl)
  intro H locs ls hw hl
  have hl : lv_has ls 4 [(0, .ref (ga G b)), (1, .ref (ga G w1))] := hl
  unfold f_X0_closings at h
  refine lv_iconst (v := (0 : Int32)) hx hb d_X0_closings_0 (by decide) ?_
  refine lv_istore_n (lv' := [(2, .int (0 : Int32)), (0, .ref (ga G b)), (1, .ref (ga G w1))]) hx hb d_X0_closings_1 rfl hl (Nat.le_of_ble_eq_true rfl) rfl (fun ls hl => ?_)
  refine lv_iconst (v := (0 : Int32)) hx hb d_X0_closings_2 (by decide) ?_
  refine lv_istore_n (lv' := [(3, .int (0 : Int32)), (2, .int (0 : Int32)), (0, .ref (ga G b)), (1, .ref (ga G w1))]) hx hb d_X0_closings_3 rfl hl (Nat.le_of_ble_eq_true rfl) rfl (fun ls hl => ?_)
  obtain ⟨z5, e6, h⟩ := bd_some h
  refine iter_w (Wh := fun z : Int32 × Int32 × St => Wat p l e (rmk 4 99) s m args below meth c Q G 4 4 [] [(2, .int z.1), (3, .int z.2.1), (0, .ref (ga G b)), (1, .ref (ga G w1))] z.2.2 σ) (K := fun z : Int32 × St => Wat p l e (rmk 4 99) s m args below meth c Q G 4 35 [] [(2, .int z.1)] z.2 σ) (fun z o h1 h2 => b4 z.2.2 z.1 z.2.1 o h1 h2) FU _ _ e6 ?_ _ _ _ hw (lv_sub hl [1, 0, 2, 3] rfl)
  intro H locs ls hw hl
  refine lv_iload_n hx hb d_X0_closings_35 rfl (lv_at hl 0 rfl) ?_
  obtain rfl := Option.some.inj h
  subst hQ
  exact r_iret X hr hlk hw d_X0_closings_36
abbrev yX0_ask : MethodName := ⟨"OysterBeds$Bed", "ask", "(LOysterBeds$Law;II)I"⟩
theorem mwX0_ask : MW yX0_ask prog_2_method_17_code 6 (some .int) 3 := ⟨wd_396, wd_4, by decide +kernel⟩
theorem d_X0_ask_0 : decode prog_2_method_17_code 0 = .ok (.aload_n 0, 1) := by decide +kernel
theorem d_X0_ask_1 : decode prog_2_method_17_code 1 = .ok (.aload_n 1, 1) := by decide +kernel
theorem d_X0_ask_2 : decode prog_2_method_17_code 2 = .ok (.iload_n 2, 1) := by decide +kernel
theorem d_X0_ask_3 : decode prog_2_method_17_code 3 = .ok (.iload_n 3, 1) := by decide +kernel
theorem d_X0_ask_4 : decode prog_2_method_17_code 4 = .ok (.invokevirtual 60, 3) := by decide +kernel
theorem d_X0_ask_7 : decode prog_2_method_17_code 7 = .ok (.istore 4, 2) := by decide +kernel
theorem d_X0_ask_9 : decode prog_2_method_17_code 9 = .ok (.iconst 0, 1) := by decide +kernel
theorem d_X0_ask_10 : decode prog_2_method_17_code 10 = .ok (.istore 5, 2) := by decide +kernel
theorem d_X0_ask_12 : decode prog_2_method_17_code 12 = .ok (.iload 5, 2) := by decide +kernel
theorem d_X0_ask_14 : decode prog_2_method_17_code 14 = .ok (.aload_n 0, 1) := by decide +kernel
theorem d_X0_ask_15 : decode prog_2_method_17_code 15 = .ok (.getfield 27, 3) := by decide +kernel
theorem d_X0_ask_18 : decode prog_2_method_17_code 18 = .ok (.if_icmp .ge 62, 3) := by decide +kernel
theorem d_X0_ask_21 : decode prog_2_method_17_code 21 = .ok (.iload 4, 2) := by decide +kernel
theorem d_X0_ask_23 : decode prog_2_method_17_code 23 = .ok (.iload 5, 2) := by decide +kernel
theorem d_X0_ask_25 : decode prog_2_method_17_code 25 = .ok (.ishr, 1) := by decide +kernel
theorem d_X0_ask_26 : decode prog_2_method_17_code 26 = .ok (.iconst 1, 1) := by decide +kernel
theorem d_X0_ask_27 : decode prog_2_method_17_code 27 = .ok (.iand, 1) := by decide +kernel
theorem d_X0_ask_28 : decode prog_2_method_17_code 28 = .ok (.iconst 1, 1) := by decide +kernel
theorem d_X0_ask_29 : decode prog_2_method_17_code 29 = .ok (.if_icmp .ne 45, 3) := by decide +kernel
theorem d_X0_ask_32 : decode prog_2_method_17_code 32 = .ok (.aload_n 0, 1) := by decide +kernel
theorem d_X0_ask_33 : decode prog_2_method_17_code 33 = .ok (.getfield 21, 3) := by decide +kernel
theorem d_X0_ask_36 : decode prog_2_method_17_code 36 = .ok (.iload 5, 2) := by decide +kernel
theorem d_X0_ask_38 : decode prog_2_method_17_code 38 = .ok (.dup2, 1) := by decide +kernel
theorem d_X0_ask_39 : decode prog_2_method_17_code 39 = .ok (.iaload, 1) := by decide +kernel
theorem d_X0_ask_40 : decode prog_2_method_17_code 40 = .ok (.iconst 1, 1) := by decide +kernel
theorem d_X0_ask_41 : decode prog_2_method_17_code 41 = .ok (.aload_n 0, 1) := by decide +kernel
theorem d_X0_ask_42 : decode prog_2_method_17_code 42 = .ok (.getfield 15, 3) := by decide +kernel
theorem d_X0_ask_45 : decode prog_2_method_17_code 45 = .ok (.iload 5, 2) := by decide +kernel
theorem d_X0_ask_47 : decode prog_2_method_17_code 47 = .ok (.iaload, 1) := by decide +kernel
theorem d_X0_ask_48 : decode prog_2_method_17_code 48 = .ok (.iconst 2, 1) := by decide +kernel
theorem d_X0_ask_49 : decode prog_2_method_17_code 49 = .ok (.idiv, 1) := by decide +kernel
theorem d_X0_ask_50 : decode prog_2_method_17_code 50 = .ok (.iadd, 1) := by decide +kernel
theorem d_X0_ask_51 : decode prog_2_method_17_code 51 = .ok (.iadd, 1) := by decide +kernel
theorem d_X0_ask_52 : decode prog_2_method_17_code 52 = .ok (.iastore, 1) := by decide +kernel
theorem d_X0_ask_53 : decode prog_2_method_17_code 53 = .ok (.aload_n 0, 1) := by decide +kernel
theorem d_X0_ask_54 : decode prog_2_method_17_code 54 = .ok (.getfield 24, 3) := by decide +kernel
theorem d_X0_ask_57 : decode prog_2_method_17_code 57 = .ok (.iload 5, 2) := by decide +kernel
theorem d_X0_ask_59 : decode prog_2_method_17_code 59 = .ok (.bipush 99, 2) := by decide +kernel
theorem d_X0_ask_61 : decode prog_2_method_17_code 61 = .ok (.aload_n 0, 1) := by decide +kernel
theorem d_X0_ask_62 : decode prog_2_method_17_code 62 = .ok (.getfield 24, 3) := by decide +kernel
theorem d_X0_ask_65 : decode prog_2_method_17_code 65 = .ok (.iload 5, 2) := by decide +kernel
theorem d_X0_ask_67 : decode prog_2_method_17_code 67 = .ok (.iaload, 1) := by decide +kernel
theorem d_X0_ask_68 : decode prog_2_method_17_code 68 = .ok (.iconst 1, 1) := by decide +kernel
theorem d_X0_ask_69 : decode prog_2_method_17_code 69 = .ok (.iadd, 1) := by decide +kernel
theorem d_X0_ask_70 : decode prog_2_method_17_code 70 = .ok (.invokestatic 41, 3) := by decide +kernel
theorem d_X0_ask_73 : decode prog_2_method_17_code 73 = .ok (.iastore, 1) := by decide +kernel
theorem d_X0_ask_74 : decode prog_2_method_17_code 74 = .ok (.iinc 5 1, 3) := by decide +kernel
theorem d_X0_ask_77 : decode prog_2_method_17_code 77 = .ok (.goto (-65), 3) := by decide +kernel
theorem d_X0_ask_80 : decode prog_2_method_17_code 80 = .ok (.aload_n 0, 1) := by decide +kernel
theorem d_X0_ask_81 : decode prog_2_method_17_code 81 = .ok (.sipush 9999, 3) := by decide +kernel
theorem d_X0_ask_84 : decode prog_2_method_17_code 84 = .ok (.aload_n 0, 1) := by decide +kernel
theorem d_X0_ask_85 : decode prog_2_method_17_code 85 = .ok (.getfield 34, 3) := by decide +kernel
theorem d_X0_ask_88 : decode prog_2_method_17_code 88 = .ok (.iconst 1, 1) := by decide +kernel
theorem d_X0_ask_89 : decode prog_2_method_17_code 89 = .ok (.iadd, 1) := by decide +kernel
theorem d_X0_ask_90 : decode prog_2_method_17_code 90 = .ok (.invokestatic 41, 3) := by decide +kernel
theorem d_X0_ask_93 : decode prog_2_method_17_code 93 = .ok (.putfield 34, 3) := by decide +kernel
theorem d_X0_ask_96 : decode prog_2_method_17_code 96 = .ok (.iload 4, 2) := by decide +kernel
theorem d_X0_ask_98 : decode prog_2_method_17_code 98 = .ok (.ireturn, 1) := by decide +kernel
def f_X0_ask_j74_12 (b : Nat) (w1 : Nat) (τ : St) (x4 : Int32) (x5 : Int32) : Option ((Int32 × St) ⊕ (St)) := some (.inl ((x5 + (1 : Int32)), τ))
def f_X0_ask_s12 (b : Nat) (w1 : Nat) (τ : St) (y4 : Int32) (x5 : Int32) : Option ((Int32 × St) ⊕ (St)) := (if (cF τ b 5) ≤ x5 then some (.inr τ) else (if ((y4 >>> (x5 &&& 31)) &&& (1 : Int32)) = (1 : Int32) then gd (inb x5 8) (gd (inb x5 8) (gd (inb x5 8) (gd (inb x5 8) (gd (inb x5 8) (f_X0_ask_j74_12 b w1 (sA (sA τ (b + 4) x5.toNatClampNeg ((cA τ (b + 4) x5.toNatClampNeg) + ((1 : Int32) + ((cA τ (b + 2) x5.toNatClampNeg) / (2 : Int32))))) (b + 5) x5.toNatClampNeg (if ((cA (sA τ (b + 4) x5.toNatClampNeg ((cA τ (b + 4) x5.toNatClampNeg) + ((1 : Int32) + ((cA τ (b + 2) x5.toNatClampNeg) / (2 : Int32))))) (b + 5) x5.toNatClampNeg) + (1 : Int32)) < (99 : Int32) then ((cA (sA τ (b + 4) x5.toNatClampNeg ((cA τ (b + 4) x5.toNatClampNeg) + ((1 : Int32) + ((cA τ (b + 2) x5.toNatClampNeg) / (2 : Int32))))) (b + 5) x5.toNatClampNeg) + (1 : Int32)) else (99 : Int32))) y4 x5))))) else f_X0_ask_j74_12 b w1 τ y4 x5))
def f_X0_ask (χ : St) (b : Nat) (w1 : Nat) (a2 : Int32) (a3 : Int32) : Option (Int32 × St) := (f_X0_closing χ b w1 a2 a3).bind (fun q1 => (iter (fun z => f_X0_ask_s12 b w1 z.2 q1.1 z.1) FU ((0 : Int32), q1.2)).bind (fun z8 => some (q1.1, (sF z8 b 7 (if ((cF z8 b 7) + (1 : Int32)) < (9999 : Int32) then ((cF z8 b 7) + (1 : Int32)) else (9999 : Int32))))))
theorem c_X0_ask {l : Launch} {G : gT} {χ σ : St} {b : Nat} {w1 : Nat} {a2 : Int32} {a3 : Int32} (hf : FW G) (hb_b : isBed b = true) (hw_w1 : LW G w1) {q : Int32 × St} (h : f_X0_ask χ b w1 a2 a3 = some q) : Ct l G yX0_ask prog_2_method_17_code 6 (some .int) 4 99 [.ref (ga G b), .ref (ga G w1), .int a2, .int a3] χ σ (some (.int q.1)) q.2 σ := by
  obtain ⟨ob0_b, ob1_b, ob2_b, ob3_b, ob4_b, ob5_b, lb_b, -, -⟩ := bed_at hf hb_b
  have lb0_b : b < 300 := by omega
  have lb1_b : b + 1 < 300 := by omega
  have lb2_b : b + 2 < 300 := by omega
  have lb3_b : b + 3 < 300 := by omega
  have lb4_b : b + 4 < 300 := by omega
  have lb5_b : b + 5 < 300 := by omega
  obtain ⟨ow0_w1, ow1_w1, ow2_w1, ow3_w1, ow4_w1, lw_w1⟩ := law_at hw_w1
  have lw0_w1 : w1 < 300 := by omega
  have lw1_w1 : w1 + 1 < 300 := by omega
  have lw2_w1 : w1 + 2 < 300 := by omega
  have lw3_w1 : w1 + 3 < 300 := by omega
  have lw4_w1 : w1 + 4 < 300 := by omega
  refine Ct.of (by decide) (Nat.le_of_ble_eq_true rfl) ?_
  intro p e s m args below meth c Q X hr hlk hQ
  have hx := X.1
  have hb := X.2.1
  have j74_12 : ∀ (τ : St) (x4 : Int32) (x5 : Int32) (o : (Int32 × St) ⊕ (St)), f_X0_ask_j74_12 b w1 τ x4 x5 = some o → Sum.elim (fun z : Int32 × St => Wat p l e (rmk 4 99) s m args below meth c Q G 6 12 [] [(5, .int z.1), (0, .ref (ga G b)), (4, .int x4)] z.2 σ) (fun z : St => Wat p l e (rmk 4 99) s m args below meth c Q G 6 80 [] [(0, .ref (ga G b)), (4, .int x4)] z σ) o → Wat p l e (rmk 4 99) s m args below meth c Q G 6 74 [] [(0, .ref (ga G b)), (4, .int x4), (5, .int x5)] τ σ := by
    intro τ x4 x5 o h hk H locs ls hw hl
    unfold f_X0_ask_j74_12 at h
    refine lv_iinc (v := (x5 + (1 : Int32))) (k := 2) (lv' := [(5, .int (x5 + (1 : Int32))), (0, .ref (ga G b)), (4, .int x4)]) hx hb d_X0_ask_74 hl rfl (by rfl) (Nat.le_of_ble_eq_true rfl) rfl (fun ls hl => ?_)
    refine lv_goto (tgt := 12) hx hb d_X0_ask_77 (by decide) ?_
    obtain rfl := Option.some.inj h
    dsimp only [Sum.elim_inl] at hk
    exact hk _ _ _ hw (lv_sub hl [0, 1, 2] rfl)
  have b12 : ∀ (τ : St) (y4 : Int32) (x5 : Int32) (o : (Int32 × St) ⊕ (St)), f_X0_ask_s12 b w1 τ y4 x5 = some o → Sum.elim (fun z : Int32 × St => Wat p l e (rmk 4 99) s m args below meth c Q G 6 12 [] [(5, .int z.1), (0, .ref (ga G b)), (4, .int y4)] z.2 σ) (fun z : St => Wat p l e (rmk 4 99) s m args below meth c Q G 6 80 [] [(0, .ref (ga G b)), (4, .int y4)] z σ) o → Wat p l e (rmk 4 99) s m args below meth c Q G 6 12 [] [(5, .int x5), (0, .ref (ga G b)), (4, .int y4)] τ σ := by
    intro τ y4 x5 o h hk H locs ls hw hl
    unfold f_X0_ask_s12 at h
    refine lv_iload hx hb d_X0_ask_12 (lv_at hl 0 rfl) ?_
    refine lv_aload_n hx hb d_X0_ask_14 rfl (lv_at hl 1 rfl) ?_
    refine r_geti (j := 5) X hw ct0 ob0_b lb0_b rfl (Nat.le_of_ble_eq_true rfl) wd_91 d_X0_ask_15 ?_
    refine lv_icmp_ge (tgt := 80) hx hb d_X0_ask_18 (by decide) (fun hc => ?_) (fun hc => ?_)
    · have h := ite_t h hc
      obtain rfl := Option.some.inj h
      dsimp only [Sum.elim_inr] at hk
      exact hk _ _ _ hw (lv_sub hl [1, 2] rfl)
    · have h := ite_f h hc
      refine lv_iload hx hb d_X0_ask_21 (lv_at hl 2 rfl) ?_
      refine lv_iload hx hb d_X0_ask_23 (lv_at hl 0 rfl) ?_
      refine lv_ishr hx hb d_X0_ask_25 ?_
      refine lv_iconst (v := (1 : Int32)) hx hb d_X0_ask_26 (by decide) ?_
      refine lv_iand hx hb d_X0_ask_27 ?_
      refine lv_iconst (v := (1 : Int32)) hx hb d_X0_ask_28 (by decide) ?_
      refine lv_icmp_ne (tgt := 74) hx hb d_X0_ask_29 (by decide) (fun hc => ?_) (fun hc => ?_)
      · have h := ite_f h hc
        exact j74_12 τ y4 x5 o h hk _ _ _ hw (lv_sub hl [1, 2, 0] rfl)
      · have h := ite_t h hc
        refine lv_aload_n hx hb d_X0_ask_32 rfl (lv_at hl 1 rfl) ?_
        refine r_getr (j := 3) X hw ct0 ob0_b rfl (Nat.le_of_ble_eq_true rfl) (q := (b + 4)) (rt_bed hb_b) wd_83 d_X0_ask_33 ?_
        refine lv_iload hx hb d_X0_ask_36 (lv_at hl 0 rfl) ?_
        refine lv_dup2_11 hx hb d_X0_ask_38 rfl rfl ?_
        obtain ⟨hi3, h⟩ := gd_some h
        refine r_iald X hw ob4_b lb4_b hi3 d_X0_ask_39 ?_
        refine lv_iconst (v := (1 : Int32)) hx hb d_X0_ask_40 (by decide) ?_
        refine lv_aload_n hx hb d_X0_ask_41 rfl (lv_at hl 1 rfl) ?_
        refine r_getr (j := 1) X hw ct0 ob0_b rfl (Nat.le_of_ble_eq_true rfl) (q := (b + 2)) (rt_bed hb_b) wd_74 d_X0_ask_42 ?_
        refine lv_iload hx hb d_X0_ask_45 (lv_at hl 0 rfl) ?_
        obtain ⟨hi4, h⟩ := gd_some h
        refine r_iald X hw ob2_b lb2_b hi4 d_X0_ask_47 ?_
        refine lv_iconst (v := (2 : Int32)) hx hb d_X0_ask_48 (by decide) ?_
        refine lv_idiv hx hb d_X0_ask_49 (by decide) ?_
        refine lv_iadd hx hb d_X0_ask_50 ?_
        refine lv_iadd hx hb d_X0_ask_51 ?_
        obtain ⟨hi5, h⟩ := gd_some h
        refine r_iast X hw ob4_b lb4_b hi5 d_X0_ask_52 (fun H locs hw => ?_)
        refine lv_aload_n hx hb d_X0_ask_53 rfl (lv_at hl 1 rfl) ?_
        refine r_getr (j := 4) X hw ct0 ob0_b rfl (Nat.le_of_ble_eq_true rfl) (q := (b + 5)) (rt_bed hb_b) wd_86 d_X0_ask_54 ?_
        refine lv_iload hx hb d_X0_ask_57 (lv_at hl 0 rfl) ?_
        refine lv_bipush (v := (99 : Int32)) hx hb d_X0_ask_59 (by decide) ?_
        refine lv_aload_n hx hb d_X0_ask_61 rfl (lv_at hl 1 rfl) ?_
        refine r_getr (j := 4) X hw ct0 ob0_b rfl (Nat.le_of_ble_eq_true rfl) (q := (b + 5)) (rt_bed hb_b) wd_86 d_X0_ask_62 ?_
        refine lv_iload hx hb d_X0_ask_65 (lv_at hl 0 rfl) ?_
        obtain ⟨hi6, h⟩ := gd_some h
        refine r_iald X hw ob5_b lb5_b hi6 d_X0_ask_67 ?_
        refine lv_iconst (v := (1 : Int32)) hx hb d_X0_ask_68 (by decide) ?_
        refine lv_iadd hx hb d_X0_ask_69 ?_
        refine r_min X hl wd_371 ⟨Nat.le_of_ble_eq_true rfl, Nat.le_of_ble_eq_true rfl⟩ ⟨Nat.le_refl _, Nat.le_refl _⟩ d_X0_ask_70 ?_
        obtain ⟨hi7, h⟩ := gd_some h
        refine r_iast X hw ob5_b lb5_b hi7 d_X0_ask_73 (fun H locs hw => ?_)
        exact j74_12 (sA (sA τ (b + 4) x5.toNatClampNeg ((cA τ (b + 4) x5.toNatClampNeg) + ((1 : Int32) + ((cA τ (b + 2) x5.toNatClampNeg) / (2 : Int32))))) (b + 5) x5.toNatClampNeg (if ((cA (sA τ (b + 4) x5.toNatClampNeg ((cA τ (b + 4) x5.toNatClampNeg) + ((1 : Int32) + ((cA τ (b + 2) x5.toNatClampNeg) / (2 : Int32))))) (b + 5) x5.toNatClampNeg) + (1 : Int32)) < (99 : Int32) then ((cA (sA τ (b + 4) x5.toNatClampNeg ((cA τ (b + 4) x5.toNatClampNeg) + ((1 : Int32) + ((cA τ (b + 2) x5.toNatClampNeg) / (2 : Int32))))) (b + 5) x5.toNatClampNeg) + (1 : Int32)) else (99 : Int32))) y4 x5 o h hk _ _ _ hw (lv_sub hl [1, 2, 0] rfl)
  intro H locs ls hw hl
  have hl : lv_has ls 6 [(0, .ref (ga G b)), (1, .ref (ga G w1)), (2, .int a2), (3, .int a3)] := hl
  unfold f_X0_ask at h
  refine lv_aload_n hx hb d_X0_ask_0 rfl (lv_at hl 0 rfl) ?_
  refine lv_aload_n hx hb d_X0_ask_1 rfl (lv_at hl 1 rfl) ?_
  refine lv_iload_n hx hb d_X0_ask_2 rfl (lv_at hl 2 rfl) ?_
  refine lv_iload_n hx hb d_X0_ask_3 rfl (lv_at hl 3 rfl) ?_
  obtain ⟨q1, e2, h⟩ := bd_some h
  refine r_callV (As := [.ref (ga G w1), .int a2, .int a3]) (rest := []) (st' := [.int q1.1]) X hw hl mwX0_closing wd_398 wd_399 wd_397 (c_X0_closing hf hb_b hw_w1 e2) (r_recv X hw ct0 ob0_b) rfl ⟨Nat.le_of_ble_eq_true rfl, Nat.le_of_ble_eq_true rfl⟩ ⟨Nat.le_refl _, Nat.le_refl _⟩ rfl rfl (Nat.le_of_ble_eq_true rfl) d_X0_ask_4 (fun H locs hw => ?_)
  refine lv_istore (lv' := [(4, .int q1.1), (0, .ref (ga G b)), (1, .ref (ga G w1)), (2, .int a2), (3, .int a3)]) hx hb d_X0_ask_7 hl (Nat.le_of_ble_eq_true rfl) rfl (fun ls hl => ?_)
  refine lv_iconst (v := (0 : Int32)) hx hb d_X0_ask_9 (by decide) ?_
  refine lv_istore (lv' := [(5, .int (0 : Int32)), (4, .int q1.1), (0, .ref (ga G b)), (1, .ref (ga G w1)), (2, .int a2), (3, .int a3)]) hx hb d_X0_ask_10 hl (Nat.le_of_ble_eq_true rfl) rfl (fun ls hl => ?_)
  obtain ⟨z8, e9, h⟩ := bd_some h
  refine iter_w (Wh := fun z : Int32 × St => Wat p l e (rmk 4 99) s m args below meth c Q G 6 12 [] [(5, .int z.1), (0, .ref (ga G b)), (4, .int q1.1)] z.2 σ) (K := fun z : St => Wat p l e (rmk 4 99) s m args below meth c Q G 6 80 [] [(0, .ref (ga G b)), (4, .int q1.1)] z σ) (fun z o h1 h2 => b12 z.2 q1.1 z.1 o h1 h2) FU _ _ e9 ?_ _ _ _ hw (lv_sub hl [0, 2, 1] rfl)
  intro H locs ls hw hl
  refine lv_aload_n hx hb d_X0_ask_80 rfl (lv_at hl 0 rfl) ?_
  refine lv_sipush (v := (9999 : Int32)) hx hb d_X0_ask_81 (by decide) ?_
  refine lv_aload_n hx hb d_X0_ask_84 rfl (lv_at hl 0 rfl) ?_
  refine r_geti (j := 7) X hw ct0 ob0_b lb0_b rfl (Nat.le_of_ble_eq_true rfl) wd_99 d_X0_ask_85 ?_
  refine lv_iconst (v := (1 : Int32)) hx hb d_X0_ask_88 (by decide) ?_
  refine lv_iadd hx hb d_X0_ask_89 ?_
  refine r_min X hl wd_371 ⟨Nat.le_of_ble_eq_true rfl, Nat.le_of_ble_eq_true rfl⟩ ⟨Nat.le_refl _, Nat.le_refl _⟩ d_X0_ask_90 ?_
  refine r_puti (j := 7) X hw ct0 ob0_b lb0_b rfl (Nat.le_of_ble_eq_true rfl) rfl rfl rfl wd_99 d_X0_ask_93 (fun H locs hw => ?_)
  refine lv_iload hx hb d_X0_ask_96 (lv_at hl 1 rfl) ?_
  obtain rfl := Option.some.inj h
  subst hQ
  exact r_iret X hr hlk hw d_X0_ask_98
abbrev yX0_goBy : MethodName := ⟨"OysterBeds$Bed", "goBy", "(I)I"⟩
theorem mwX0_goBy : MW yX0_goBy prog_2_method_18_code 4 (some .int) 1 := ⟨wd_448, wd_4, by decide +kernel⟩
theorem d_X0_goBy_0 : decode prog_2_method_18_code 0 = .ok (.aload_n 0, 1) := by decide +kernel
theorem d_X0_goBy_1 : decode prog_2_method_18_code 1 = .ok (.invokevirtual 69, 3) := by decide +kernel
theorem d_X0_goBy_4 : decode prog_2_method_18_code 4 = .ok (.istore_n 2, 1) := by decide +kernel
theorem d_X0_goBy_5 : decode prog_2_method_18_code 5 = .ok (.iconst 0, 1) := by decide +kernel
theorem d_X0_goBy_6 : decode prog_2_method_18_code 6 = .ok (.istore_n 3, 1) := by decide +kernel
theorem d_X0_goBy_7 : decode prog_2_method_18_code 7 = .ok (.iload_n 3, 1) := by decide +kernel
theorem d_X0_goBy_8 : decode prog_2_method_18_code 8 = .ok (.aload_n 0, 1) := by decide +kernel
theorem d_X0_goBy_9 : decode prog_2_method_18_code 9 = .ok (.getfield 27, 3) := by decide +kernel
theorem d_X0_goBy_12 : decode prog_2_method_18_code 12 = .ok (.if_icmp .ge 27, 3) := by decide +kernel
theorem d_X0_goBy_15 : decode prog_2_method_18_code 15 = .ok (.aload_n 0, 1) := by decide +kernel
theorem d_X0_goBy_16 : decode prog_2_method_18_code 16 = .ok (.getfield 21, 3) := by decide +kernel
theorem d_X0_goBy_19 : decode prog_2_method_18_code 19 = .ok (.iload_n 3, 1) := by decide +kernel
theorem d_X0_goBy_20 : decode prog_2_method_18_code 20 = .ok (.iconst 0, 1) := by decide +kernel
theorem d_X0_goBy_21 : decode prog_2_method_18_code 21 = .ok (.aload_n 0, 1) := by decide +kernel
theorem d_X0_goBy_22 : decode prog_2_method_18_code 22 = .ok (.getfield 21, 3) := by decide +kernel
theorem d_X0_goBy_25 : decode prog_2_method_18_code 25 = .ok (.iload_n 3, 1) := by decide +kernel
theorem d_X0_goBy_26 : decode prog_2_method_18_code 26 = .ok (.iaload, 1) := by decide +kernel
theorem d_X0_goBy_27 : decode prog_2_method_18_code 27 = .ok (.iload_n 1, 1) := by decide +kernel
theorem d_X0_goBy_28 : decode prog_2_method_18_code 28 = .ok (.isub, 1) := by decide +kernel
theorem d_X0_goBy_29 : decode prog_2_method_18_code 29 = .ok (.invokestatic 47, 3) := by decide +kernel
theorem d_X0_goBy_32 : decode prog_2_method_18_code 32 = .ok (.iastore, 1) := by decide +kernel
theorem d_X0_goBy_33 : decode prog_2_method_18_code 33 = .ok (.iinc 3 1, 3) := by decide +kernel
theorem d_X0_goBy_36 : decode prog_2_method_18_code 36 = .ok (.goto (-29), 3) := by decide +kernel
theorem d_X0_goBy_39 : decode prog_2_method_18_code 39 = .ok (.aload_n 0, 1) := by decide +kernel
theorem d_X0_goBy_40 : decode prog_2_method_18_code 40 = .ok (.dup, 1) := by decide +kernel
theorem d_X0_goBy_41 : decode prog_2_method_18_code 41 = .ok (.getfield 31, 3) := by decide +kernel
theorem d_X0_goBy_44 : decode prog_2_method_18_code 44 = .ok (.iload_n 1, 1) := by decide +kernel
theorem d_X0_goBy_45 : decode prog_2_method_18_code 45 = .ok (.iadd, 1) := by decide +kernel
theorem d_X0_goBy_46 : decode prog_2_method_18_code 46 = .ok (.putfield 31, 3) := by decide +kernel
theorem d_X0_goBy_49 : decode prog_2_method_18_code 49 = .ok (.aload_n 0, 1) := by decide +kernel
theorem d_X0_goBy_50 : decode prog_2_method_18_code 50 = .ok (.invokevirtual 69, 3) := by decide +kernel
theorem d_X0_goBy_53 : decode prog_2_method_18_code 53 = .ok (.iload_n 2, 1) := by decide +kernel
theorem d_X0_goBy_54 : decode prog_2_method_18_code 54 = .ok (.iconst (-1), 1) := by decide +kernel
theorem d_X0_goBy_55 : decode prog_2_method_18_code 55 = .ok (.ixor, 1) := by decide +kernel
theorem d_X0_goBy_56 : decode prog_2_method_18_code 56 = .ok (.iand, 1) := by decide +kernel
theorem d_X0_goBy_57 : decode prog_2_method_18_code 57 = .ok (.ireturn, 1) := by decide +kernel
def f_X0_goBy_s7 (b : Nat) (τ : St) (y1 : Int32) (y2 : Int32) (x3 : Int32) : Option ((Int32 × St) ⊕ (St)) := (if (cF τ b 5) ≤ x3 then some (.inr τ) else gd (inb x3 8) (gd (inb x3 8) (some (.inl ((x3 + (1 : Int32)), (sA τ (b + 4) x3.toNatClampNeg (if (0 : Int32) < ((cA τ (b + 4) x3.toNatClampNeg) - y1) then ((cA τ (b + 4) x3.toNatClampNeg) - y1) else (0 : Int32))))))))
def f_X0_goBy (χ : St) (b : Nat) (a1 : Int32) : Option (Int32 × St) := (f_X0_openOnes χ b).bind (fun q1 => (iter (fun z => f_X0_goBy_s7 b z.2 a1 q1 z.1) FU ((0 : Int32), χ)).bind (fun z5 => (f_X0_openOnes (sF z5 b 6 ((cF z5 b 6) + a1)) b).bind (fun q8 => some ((q8 &&& (q1 ^^^ (-1 : Int32))), (sF z5 b 6 ((cF z5 b 6) + a1))))))
theorem c_X0_goBy {l : Launch} {G : gT} {χ σ : St} {b : Nat} {a1 : Int32} (hf : FW G) (hb_b : isBed b = true) {q : Int32 × St} (h : f_X0_goBy χ b a1 = some q) : Ct l G yX0_goBy prog_2_method_18_code 4 (some .int) 2 43 [.ref (ga G b), .int a1] χ σ (some (.int q.1)) q.2 σ := by
  obtain ⟨ob0_b, ob1_b, ob2_b, ob3_b, ob4_b, ob5_b, lb_b, -, -⟩ := bed_at hf hb_b
  have lb0_b : b < 300 := by omega
  have lb1_b : b + 1 < 300 := by omega
  have lb2_b : b + 2 < 300 := by omega
  have lb3_b : b + 3 < 300 := by omega
  have lb4_b : b + 4 < 300 := by omega
  have lb5_b : b + 5 < 300 := by omega
  refine Ct.of (by decide) (Nat.le_of_ble_eq_true rfl) ?_
  intro p e s m args below meth c Q X hr hlk hQ
  have hx := X.1
  have hb := X.2.1
  have b7 : ∀ (τ : St) (y1 : Int32) (y2 : Int32) (x3 : Int32) (o : (Int32 × St) ⊕ (St)), f_X0_goBy_s7 b τ y1 y2 x3 = some o → Sum.elim (fun z : Int32 × St => Wat p l e (rmk 2 43) s m args below meth c Q G 4 7 [] [(3, .int z.1), (0, .ref (ga G b)), (1, .int y1), (2, .int y2)] z.2 σ) (fun z : St => Wat p l e (rmk 2 43) s m args below meth c Q G 4 39 [] [(0, .ref (ga G b)), (1, .int y1), (2, .int y2)] z σ) o → Wat p l e (rmk 2 43) s m args below meth c Q G 4 7 [] [(3, .int x3), (0, .ref (ga G b)), (1, .int y1), (2, .int y2)] τ σ := by
    intro τ y1 y2 x3 o h hk H locs ls hw hl
    unfold f_X0_goBy_s7 at h
    refine lv_iload_n hx hb d_X0_goBy_7 rfl (lv_at hl 0 rfl) ?_
    refine lv_aload_n hx hb d_X0_goBy_8 rfl (lv_at hl 1 rfl) ?_
    refine r_geti (j := 5) X hw ct0 ob0_b lb0_b rfl (Nat.le_of_ble_eq_true rfl) wd_91 d_X0_goBy_9 ?_
    refine lv_icmp_ge (tgt := 39) hx hb d_X0_goBy_12 (by decide) (fun hc => ?_) (fun hc => ?_)
    · have h := ite_t h hc
      obtain rfl := Option.some.inj h
      dsimp only [Sum.elim_inr] at hk
      exact hk _ _ _ hw (lv_sub hl [1, 2, 3] rfl)
    · have h := ite_f h hc
      refine lv_aload_n hx hb d_X0_goBy_15 rfl (lv_at hl 1 rfl) ?_
      refine r_getr (j := 3) X hw ct0 ob0_b rfl (Nat.le_of_ble_eq_true rfl) (q := (b + 4)) (rt_bed hb_b) wd_83 d_X0_goBy_16 ?_
      refine lv_iload_n hx hb d_X0_goBy_19 rfl (lv_at hl 0 rfl) ?_
      refine lv_iconst (v := (0 : Int32)) hx hb d_X0_goBy_20 (by decide) ?_
      refine lv_aload_n hx hb d_X0_goBy_21 rfl (lv_at hl 1 rfl) ?_
      refine r_getr (j := 3) X hw ct0 ob0_b rfl (Nat.le_of_ble_eq_true rfl) (q := (b + 4)) (rt_bed hb_b) wd_83 d_X0_goBy_22 ?_
      refine lv_iload_n hx hb d_X0_goBy_25 rfl (lv_at hl 0 rfl) ?_
      obtain ⟨hi3, h⟩ := gd_some h
      refine r_iald X hw ob4_b lb4_b hi3 d_X0_goBy_26 ?_
      refine lv_iload_n hx hb d_X0_goBy_27 rfl (lv_at hl 2 rfl) ?_
      refine lv_isub hx hb d_X0_goBy_28 ?_
      refine r_max X hl wd_372 ⟨Nat.le_of_ble_eq_true rfl, Nat.le_of_ble_eq_true rfl⟩ ⟨Nat.le_refl _, Nat.le_refl _⟩ d_X0_goBy_29 ?_
      obtain ⟨hi4, h⟩ := gd_some h
      refine r_iast X hw ob4_b lb4_b hi4 d_X0_goBy_32 (fun H locs hw => ?_)
      refine lv_iinc (v := (x3 + (1 : Int32))) (k := 0) (lv' := [(3, .int (x3 + (1 : Int32))), (0, .ref (ga G b)), (1, .int y1), (2, .int y2)]) hx hb d_X0_goBy_33 hl rfl (by rfl) (Nat.le_of_ble_eq_true rfl) rfl (fun ls hl => ?_)
      refine lv_goto (tgt := 7) hx hb d_X0_goBy_36 (by decide) ?_
      obtain rfl := Option.some.inj h
      dsimp only [Sum.elim_inl] at hk
      exact hk _ _ _ hw (lv_sub hl [0, 1, 2, 3] rfl)
  intro H locs ls hw hl
  have hl : lv_has ls 4 [(0, .ref (ga G b)), (1, .int a1)] := hl
  unfold f_X0_goBy at h
  refine lv_aload_n hx hb d_X0_goBy_0 rfl (lv_at hl 0 rfl) ?_
  obtain ⟨q1, e2, h⟩ := bd_some h
  refine r_callV (As := []) (rest := []) (st' := [.int q1]) X hw hl mwX0_openOnes wd_428 wd_429 wd_449 (c_X0_openOnes hf hb_b e2) (r_recv X hw ct0 ob0_b) rfl ⟨Nat.le_of_ble_eq_true rfl, Nat.le_of_ble_eq_true rfl⟩ ⟨Nat.le_refl _, Nat.le_refl _⟩ rfl rfl (Nat.le_of_ble_eq_true rfl) d_X0_goBy_1 (fun H locs hw => ?_)
  refine lv_istore_n (lv' := [(2, .int q1), (0, .ref (ga G b)), (1, .int a1)]) hx hb d_X0_goBy_4 rfl hl (Nat.le_of_ble_eq_true rfl) rfl (fun ls hl => ?_)
  refine lv_iconst (v := (0 : Int32)) hx hb d_X0_goBy_5 (by decide) ?_
  refine lv_istore_n (lv' := [(3, .int (0 : Int32)), (2, .int q1), (0, .ref (ga G b)), (1, .int a1)]) hx hb d_X0_goBy_6 rfl hl (Nat.le_of_ble_eq_true rfl) rfl (fun ls hl => ?_)
  obtain ⟨z5, e6, h⟩ := bd_some h
  refine iter_w (Wh := fun z : Int32 × St => Wat p l e (rmk 2 43) s m args below meth c Q G 4 7 [] [(3, .int z.1), (0, .ref (ga G b)), (1, .int a1), (2, .int q1)] z.2 σ) (K := fun z : St => Wat p l e (rmk 2 43) s m args below meth c Q G 4 39 [] [(0, .ref (ga G b)), (1, .int a1), (2, .int q1)] z σ) (fun z o h1 h2 => b7 z.2 a1 q1 z.1 o h1 h2) FU _ _ e6 ?_ _ _ _ hw (lv_sub hl [0, 2, 3, 1] rfl)
  intro H locs ls hw hl
  refine lv_aload_n hx hb d_X0_goBy_39 rfl (lv_at hl 0 rfl) ?_
  refine lv_dup hx hb d_X0_goBy_40 rfl ?_
  refine r_geti (j := 6) X hw ct0 ob0_b lb0_b rfl (Nat.le_of_ble_eq_true rfl) wd_96 d_X0_goBy_41 ?_
  refine lv_iload_n hx hb d_X0_goBy_44 rfl (lv_at hl 1 rfl) ?_
  refine lv_iadd hx hb d_X0_goBy_45 ?_
  refine r_puti (j := 6) X hw ct0 ob0_b lb0_b rfl (Nat.le_of_ble_eq_true rfl) rfl rfl rfl wd_96 d_X0_goBy_46 (fun H locs hw => ?_)
  refine lv_aload_n hx hb d_X0_goBy_49 rfl (lv_at hl 0 rfl) ?_
  obtain ⟨q8, e9, h⟩ := bd_some h
  refine r_callV (As := []) (rest := []) (st' := [.int q8]) X hw hl mwX0_openOnes wd_428 wd_429 wd_449 (c_X0_openOnes hf hb_b e9) (r_recv X hw ct0 ob0_b) rfl ⟨Nat.le_of_ble_eq_true rfl, Nat.le_of_ble_eq_true rfl⟩ ⟨Nat.le_refl _, Nat.le_refl _⟩ rfl rfl (Nat.le_of_ble_eq_true rfl) d_X0_goBy_50 (fun H locs hw => ?_)
  refine lv_iload_n hx hb d_X0_goBy_53 rfl (lv_at hl 2 rfl) ?_
  refine lv_iconst (v := (-1 : Int32)) hx hb d_X0_goBy_54 (by decide) ?_
  refine lv_ixor hx hb d_X0_goBy_55 ?_
  refine lv_iand hx hb d_X0_goBy_56 ?_
  obtain rfl := Option.some.inj h
  subst hQ
  exact r_iret X hr hlk hw d_X0_goBy_57
abbrev yX0_soothe : MethodName := ⟨"OysterBeds$Bed", "soothe", "(II)I"⟩
theorem mwX0_soothe : MW yX0_soothe prog_2_method_19_code 4 (some .int) 2 := ⟨wd_458, wd_4, by decide +kernel⟩
theorem d_X0_soothe_0 : decode prog_2_method_19_code 0 = .ok (.aload_n 0, 1) := by decide +kernel
theorem d_X0_soothe_1 : decode prog_2_method_19_code 1 = .ok (.iload_n 1, 1) := by decide +kernel
theorem d_X0_soothe_2 : decode prog_2_method_19_code 2 = .ok (.invokevirtual 50, 3) := by decide +kernel
theorem d_X0_soothe_5 : decode prog_2_method_19_code 5 = .ok (.ifCond .eq 13, 3) := by decide +kernel
theorem d_X0_soothe_8 : decode prog_2_method_19_code 8 = .ok (.iload_n 2, 1) := by decide +kernel
theorem d_X0_soothe_9 : decode prog_2_method_19_code 9 = .ok (.ifCond .lt 9, 3) := by decide +kernel
theorem d_X0_soothe_12 : decode prog_2_method_19_code 12 = .ok (.iload_n 2, 1) := by decide +kernel
theorem d_X0_soothe_13 : decode prog_2_method_19_code 13 = .ok (.bipush 9, 2) := by decide +kernel
theorem d_X0_soothe_15 : decode prog_2_method_19_code 15 = .ok (.if_icmp .le 5, 3) := by decide +kernel
theorem d_X0_soothe_18 : decode prog_2_method_19_code 18 = .ok (.iconst (-1), 1) := by decide +kernel
theorem d_X0_soothe_19 : decode prog_2_method_19_code 19 = .ok (.ireturn, 1) := by decide +kernel
theorem d_X0_soothe_20 : decode prog_2_method_19_code 20 = .ok (.aload_n 0, 1) := by decide +kernel
theorem d_X0_soothe_21 : decode prog_2_method_19_code 21 = .ok (.getfield 15, 3) := by decide +kernel
theorem d_X0_soothe_24 : decode prog_2_method_19_code 24 = .ok (.iload_n 1, 1) := by decide +kernel
theorem d_X0_soothe_25 : decode prog_2_method_19_code 25 = .ok (.iaload, 1) := by decide +kernel
theorem d_X0_soothe_26 : decode prog_2_method_19_code 26 = .ok (.istore_n 3, 1) := by decide +kernel
theorem d_X0_soothe_27 : decode prog_2_method_19_code 27 = .ok (.aload_n 0, 1) := by decide +kernel
theorem d_X0_soothe_28 : decode prog_2_method_19_code 28 = .ok (.getfield 15, 3) := by decide +kernel
theorem d_X0_soothe_31 : decode prog_2_method_19_code 31 = .ok (.iload_n 1, 1) := by decide +kernel
theorem d_X0_soothe_32 : decode prog_2_method_19_code 32 = .ok (.iload_n 2, 1) := by decide +kernel
theorem d_X0_soothe_33 : decode prog_2_method_19_code 33 = .ok (.iastore, 1) := by decide +kernel
theorem d_X0_soothe_34 : decode prog_2_method_19_code 34 = .ok (.iload_n 3, 1) := by decide +kernel
theorem d_X0_soothe_35 : decode prog_2_method_19_code 35 = .ok (.iload_n 2, 1) := by decide +kernel
theorem d_X0_soothe_36 : decode prog_2_method_19_code 36 = .ok (.if_icmp .ne 8, 3) := by decide +kernel
theorem d_X0_soothe_39 : decode prog_2_method_19_code 39 = .ok (.bipush (-2), 2) := by decide +kernel
theorem d_X0_soothe_41 : decode prog_2_method_19_code 41 = .ok (.goto 7, 3) := by decide +kernel
theorem d_X0_soothe_44 : decode prog_2_method_19_code 44 = .ok (.bipush 10, 2) := by decide +kernel
theorem d_X0_soothe_46 : decode prog_2_method_19_code 46 = .ok (.iload_n 3, 1) := by decide +kernel
theorem d_X0_soothe_47 : decode prog_2_method_19_code 47 = .ok (.iadd, 1) := by decide +kernel
theorem d_X0_soothe_48 : decode prog_2_method_19_code 48 = .ok (.ireturn, 1) := by decide +kernel
def f_X0_soothe (χ : St) (b : Nat) (a1 : Int32) (a2 : Int32) : Option (Int32 × St) := (f_X0_has χ b a1).bind (fun q1 => (if q1 = 0 then some ((-1 : Int32), χ) else (if a2 < 0 then some ((-1 : Int32), χ) else (if a2 ≤ (9 : Int32) then gd (inb a1 8) (gd (inb a1 8) (some ((if (cA χ (b + 2) a1.toNatClampNeg) = a2 then (-2 : Int32) else ((10 : Int32) + (cA χ (b + 2) a1.toNatClampNeg))), (sA χ (b + 2) a1.toNatClampNeg a2)))) else some ((-1 : Int32), χ)))))
theorem c_X0_soothe {l : Launch} {G : gT} {χ σ : St} {b : Nat} {a1 : Int32} {a2 : Int32} (hf : FW G) (hb_b : isBed b = true) {q : Int32 × St} (h : f_X0_soothe χ b a1 a2 = some q) : Ct l G yX0_soothe prog_2_method_19_code 4 (some .int) 1 21 [.ref (ga G b), .int a1, .int a2] χ σ (some (.int q.1)) q.2 σ := by
  obtain ⟨ob0_b, ob1_b, ob2_b, ob3_b, ob4_b, ob5_b, lb_b, -, -⟩ := bed_at hf hb_b
  have lb0_b : b < 300 := by omega
  have lb1_b : b + 1 < 300 := by omega
  have lb2_b : b + 2 < 300 := by omega
  have lb3_b : b + 3 < 300 := by omega
  have lb4_b : b + 4 < 300 := by omega
  have lb5_b : b + 5 < 300 := by omega
  refine Ct.of (by decide) (Nat.le_of_ble_eq_true rfl) ?_
  intro p e s m args below meth c Q X hr hlk hQ
  have hx := X.1
  have hb := X.2.1
  intro H locs ls hw hl
  have hl : lv_has ls 4 [(0, .ref (ga G b)), (1, .int a1), (2, .int a2)] := hl
  unfold f_X0_soothe at h
  refine lv_aload_n hx hb d_X0_soothe_0 rfl (lv_at hl 0 rfl) ?_
  refine lv_iload_n hx hb d_X0_soothe_1 rfl (lv_at hl 1 rfl) ?_
  obtain ⟨q1, e2, h⟩ := bd_some h
  refine r_callV (As := [.int a1]) (rest := []) (st' := [.int q1]) X hw hl mwX0_has wd_409 wd_410 wd_459 (c_X0_has hf hb_b e2) (r_recv X hw ct0 ob0_b) rfl ⟨Nat.le_of_ble_eq_true rfl, Nat.le_of_ble_eq_true rfl⟩ ⟨Nat.le_refl _, Nat.le_refl _⟩ rfl rfl (Nat.le_of_ble_eq_true rfl) d_X0_soothe_2 (fun H locs hw => ?_)
  refine lv_if_eq (tgt := 18) hx hb d_X0_soothe_5 (by decide) (fun hc => ?_) (fun hc => ?_)
  · have h := ite_t h hc
    refine lv_iconst (v := (-1 : Int32)) hx hb d_X0_soothe_18 (by decide) ?_
    obtain rfl := Option.some.inj h
    subst hQ
    exact r_iret X hr hlk hw d_X0_soothe_19
  · have h := ite_f h hc
    refine lv_iload_n hx hb d_X0_soothe_8 rfl (lv_at hl 2 rfl) ?_
    refine lv_if_lt (tgt := 18) hx hb d_X0_soothe_9 (by decide) (fun hc => ?_) (fun hc => ?_)
    · have h := ite_t h hc
      refine lv_iconst (v := (-1 : Int32)) hx hb d_X0_soothe_18 (by decide) ?_
      obtain rfl := Option.some.inj h
      subst hQ
      exact r_iret X hr hlk hw d_X0_soothe_19
    · have h := ite_f h hc
      refine lv_iload_n hx hb d_X0_soothe_12 rfl (lv_at hl 2 rfl) ?_
      refine lv_bipush (v := (9 : Int32)) hx hb d_X0_soothe_13 (by decide) ?_
      refine lv_icmp_le (tgt := 20) hx hb d_X0_soothe_15 (by decide) (fun hc => ?_) (fun hc => ?_)
      · have h := ite_t h hc
        refine lv_aload_n hx hb d_X0_soothe_20 rfl (lv_at hl 0 rfl) ?_
        refine r_getr (j := 1) X hw ct0 ob0_b rfl (Nat.le_of_ble_eq_true rfl) (q := (b + 2)) (rt_bed hb_b) wd_74 d_X0_soothe_21 ?_
        refine lv_iload_n hx hb d_X0_soothe_24 rfl (lv_at hl 1 rfl) ?_
        obtain ⟨hi3, h⟩ := gd_some h
        refine r_iald X hw ob2_b lb2_b hi3 d_X0_soothe_25 ?_
        refine lv_istore_n (lv' := [(3, .int (cA χ (b + 2) a1.toNatClampNeg)), (0, .ref (ga G b)), (1, .int a1), (2, .int a2)]) hx hb d_X0_soothe_26 rfl hl (Nat.le_of_ble_eq_true rfl) rfl (fun ls hl => ?_)
        refine lv_aload_n hx hb d_X0_soothe_27 rfl (lv_at hl 1 rfl) ?_
        refine r_getr (j := 1) X hw ct0 ob0_b rfl (Nat.le_of_ble_eq_true rfl) (q := (b + 2)) (rt_bed hb_b) wd_74 d_X0_soothe_28 ?_
        refine lv_iload_n hx hb d_X0_soothe_31 rfl (lv_at hl 2 rfl) ?_
        refine lv_iload_n hx hb d_X0_soothe_32 rfl (lv_at hl 3 rfl) ?_
        obtain ⟨hi4, h⟩ := gd_some h
        refine r_iast X hw ob2_b lb2_b hi4 d_X0_soothe_33 (fun H locs hw => ?_)
        refine lv_iload_n hx hb d_X0_soothe_34 rfl (lv_at hl 0 rfl) ?_
        refine lv_iload_n hx hb d_X0_soothe_35 rfl (lv_at hl 3 rfl) ?_
        refine lv_icmp_ne (tgt := 44) hx hb d_X0_soothe_36 (by decide) (fun hc => ?_) (fun hc => ?_)
        · simp only [if_neg hc] at h
          refine lv_bipush (v := (10 : Int32)) hx hb d_X0_soothe_44 (by decide) ?_
          refine lv_iload_n hx hb d_X0_soothe_46 rfl (lv_at hl 0 rfl) ?_
          refine lv_iadd hx hb d_X0_soothe_47 ?_
          obtain rfl := Option.some.inj h
          subst hQ
          exact r_iret X hr hlk hw d_X0_soothe_48
        · simp only [if_pos hc] at h
          refine lv_bipush (v := (-2 : Int32)) hx hb d_X0_soothe_39 (by decide) ?_
          refine lv_goto (tgt := 48) hx hb d_X0_soothe_41 (by decide) ?_
          obtain rfl := Option.some.inj h
          subst hQ
          exact r_iret X hr hlk hw d_X0_soothe_48
      · have h := ite_f h hc
        refine lv_iconst (v := (-1 : Int32)) hx hb d_X0_soothe_18 (by decide) ?_
        obtain rfl := Option.some.inj h
        subst hQ
        exact r_iret X hr hlk hw d_X0_soothe_19
abbrev yX0_persuade : MethodName := ⟨"OysterBeds$Bed", "persuade", "(II)I"⟩
theorem mwX0_persuade : MW yX0_persuade prog_2_method_20_code 4 (some .int) 2 := ⟨wd_471, wd_4, by decide +kernel⟩
theorem d_X0_persuade_0 : decode prog_2_method_20_code 0 = .ok (.aload_n 0, 1) := by decide +kernel
theorem d_X0_persuade_1 : decode prog_2_method_20_code 1 = .ok (.iload_n 1, 1) := by decide +kernel
theorem d_X0_persuade_2 : decode prog_2_method_20_code 2 = .ok (.invokevirtual 50, 3) := by decide +kernel
theorem d_X0_persuade_5 : decode prog_2_method_20_code 5 = .ok (.ifCond .eq 13, 3) := by decide +kernel
theorem d_X0_persuade_8 : decode prog_2_method_20_code 8 = .ok (.iload_n 2, 1) := by decide +kernel
theorem d_X0_persuade_9 : decode prog_2_method_20_code 9 = .ok (.ifCond .lt 9, 3) := by decide +kernel
theorem d_X0_persuade_12 : decode prog_2_method_20_code 12 = .ok (.iload_n 2, 1) := by decide +kernel
theorem d_X0_persuade_13 : decode prog_2_method_20_code 13 = .ok (.bipush 16, 2) := by decide +kernel
theorem d_X0_persuade_15 : decode prog_2_method_20_code 15 = .ok (.if_icmp .lt 5, 3) := by decide +kernel
theorem d_X0_persuade_18 : decode prog_2_method_20_code 18 = .ok (.iconst (-1), 1) := by decide +kernel
theorem d_X0_persuade_19 : decode prog_2_method_20_code 19 = .ok (.ireturn, 1) := by decide +kernel
theorem d_X0_persuade_20 : decode prog_2_method_20_code 20 = .ok (.aload_n 0, 1) := by decide +kernel
theorem d_X0_persuade_21 : decode prog_2_method_20_code 21 = .ok (.getfield 18, 3) := by decide +kernel
theorem d_X0_persuade_24 : decode prog_2_method_20_code 24 = .ok (.iload_n 1, 1) := by decide +kernel
theorem d_X0_persuade_25 : decode prog_2_method_20_code 25 = .ok (.iaload, 1) := by decide +kernel
theorem d_X0_persuade_26 : decode prog_2_method_20_code 26 = .ok (.istore_n 3, 1) := by decide +kernel
theorem d_X0_persuade_27 : decode prog_2_method_20_code 27 = .ok (.aload_n 0, 1) := by decide +kernel
theorem d_X0_persuade_28 : decode prog_2_method_20_code 28 = .ok (.getfield 18, 3) := by decide +kernel
theorem d_X0_persuade_31 : decode prog_2_method_20_code 31 = .ok (.iload_n 1, 1) := by decide +kernel
theorem d_X0_persuade_32 : decode prog_2_method_20_code 32 = .ok (.iload_n 2, 1) := by decide +kernel
theorem d_X0_persuade_33 : decode prog_2_method_20_code 33 = .ok (.iastore, 1) := by decide +kernel
theorem d_X0_persuade_34 : decode prog_2_method_20_code 34 = .ok (.iload_n 3, 1) := by decide +kernel
theorem d_X0_persuade_35 : decode prog_2_method_20_code 35 = .ok (.iload_n 2, 1) := by decide +kernel
theorem d_X0_persuade_36 : decode prog_2_method_20_code 36 = .ok (.if_icmp .ne 8, 3) := by decide +kernel
theorem d_X0_persuade_39 : decode prog_2_method_20_code 39 = .ok (.bipush (-2), 2) := by decide +kernel
theorem d_X0_persuade_41 : decode prog_2_method_20_code 41 = .ok (.goto 7, 3) := by decide +kernel
theorem d_X0_persuade_44 : decode prog_2_method_20_code 44 = .ok (.bipush 20, 2) := by decide +kernel
theorem d_X0_persuade_46 : decode prog_2_method_20_code 46 = .ok (.iload_n 3, 1) := by decide +kernel
theorem d_X0_persuade_47 : decode prog_2_method_20_code 47 = .ok (.iadd, 1) := by decide +kernel
theorem d_X0_persuade_48 : decode prog_2_method_20_code 48 = .ok (.ireturn, 1) := by decide +kernel
def f_X0_persuade (χ : St) (b : Nat) (a1 : Int32) (a2 : Int32) : Option (Int32 × St) := (f_X0_has χ b a1).bind (fun q1 => (if q1 = 0 then some ((-1 : Int32), χ) else (if a2 < 0 then some ((-1 : Int32), χ) else (if a2 < (16 : Int32) then gd (inb a1 8) (gd (inb a1 8) (some ((if (cA χ (b + 3) a1.toNatClampNeg) = a2 then (-2 : Int32) else ((20 : Int32) + (cA χ (b + 3) a1.toNatClampNeg))), (sA χ (b + 3) a1.toNatClampNeg a2)))) else some ((-1 : Int32), χ)))))
theorem c_X0_persuade {l : Launch} {G : gT} {χ σ : St} {b : Nat} {a1 : Int32} {a2 : Int32} (hf : FW G) (hb_b : isBed b = true) {q : Int32 × St} (h : f_X0_persuade χ b a1 a2 = some q) : Ct l G yX0_persuade prog_2_method_20_code 4 (some .int) 1 21 [.ref (ga G b), .int a1, .int a2] χ σ (some (.int q.1)) q.2 σ := by
  obtain ⟨ob0_b, ob1_b, ob2_b, ob3_b, ob4_b, ob5_b, lb_b, -, -⟩ := bed_at hf hb_b
  have lb0_b : b < 300 := by omega
  have lb1_b : b + 1 < 300 := by omega
  have lb2_b : b + 2 < 300 := by omega
  have lb3_b : b + 3 < 300 := by omega
  have lb4_b : b + 4 < 300 := by omega
  have lb5_b : b + 5 < 300 := by omega
  refine Ct.of (by decide) (Nat.le_of_ble_eq_true rfl) ?_
  intro p e s m args below meth c Q X hr hlk hQ
  have hx := X.1
  have hb := X.2.1
  intro H locs ls hw hl
  have hl : lv_has ls 4 [(0, .ref (ga G b)), (1, .int a1), (2, .int a2)] := hl
  unfold f_X0_persuade at h
  refine lv_aload_n hx hb d_X0_persuade_0 rfl (lv_at hl 0 rfl) ?_
  refine lv_iload_n hx hb d_X0_persuade_1 rfl (lv_at hl 1 rfl) ?_
  obtain ⟨q1, e2, h⟩ := bd_some h
  refine r_callV (As := [.int a1]) (rest := []) (st' := [.int q1]) X hw hl mwX0_has wd_409 wd_410 wd_459 (c_X0_has hf hb_b e2) (r_recv X hw ct0 ob0_b) rfl ⟨Nat.le_of_ble_eq_true rfl, Nat.le_of_ble_eq_true rfl⟩ ⟨Nat.le_refl _, Nat.le_refl _⟩ rfl rfl (Nat.le_of_ble_eq_true rfl) d_X0_persuade_2 (fun H locs hw => ?_)
  refine lv_if_eq (tgt := 18) hx hb d_X0_persuade_5 (by decide) (fun hc => ?_) (fun hc => ?_)
  · have h := ite_t h hc
    refine lv_iconst (v := (-1 : Int32)) hx hb d_X0_persuade_18 (by decide) ?_
    obtain rfl := Option.some.inj h
    subst hQ
    exact r_iret X hr hlk hw d_X0_persuade_19
  · have h := ite_f h hc
    refine lv_iload_n hx hb d_X0_persuade_8 rfl (lv_at hl 2 rfl) ?_
    refine lv_if_lt (tgt := 18) hx hb d_X0_persuade_9 (by decide) (fun hc => ?_) (fun hc => ?_)
    · have h := ite_t h hc
      refine lv_iconst (v := (-1 : Int32)) hx hb d_X0_persuade_18 (by decide) ?_
      obtain rfl := Option.some.inj h
      subst hQ
      exact r_iret X hr hlk hw d_X0_persuade_19
    · have h := ite_f h hc
      refine lv_iload_n hx hb d_X0_persuade_12 rfl (lv_at hl 2 rfl) ?_
      refine lv_bipush (v := (16 : Int32)) hx hb d_X0_persuade_13 (by decide) ?_
      refine lv_icmp_lt (tgt := 20) hx hb d_X0_persuade_15 (by decide) (fun hc => ?_) (fun hc => ?_)
      · have h := ite_t h hc
        refine lv_aload_n hx hb d_X0_persuade_20 rfl (lv_at hl 0 rfl) ?_
        refine r_getr (j := 2) X hw ct0 ob0_b rfl (Nat.le_of_ble_eq_true rfl) (q := (b + 3)) (rt_bed hb_b) wd_79 d_X0_persuade_21 ?_
        refine lv_iload_n hx hb d_X0_persuade_24 rfl (lv_at hl 1 rfl) ?_
        obtain ⟨hi3, h⟩ := gd_some h
        refine r_iald X hw ob3_b lb3_b hi3 d_X0_persuade_25 ?_
        refine lv_istore_n (lv' := [(3, .int (cA χ (b + 3) a1.toNatClampNeg)), (0, .ref (ga G b)), (1, .int a1), (2, .int a2)]) hx hb d_X0_persuade_26 rfl hl (Nat.le_of_ble_eq_true rfl) rfl (fun ls hl => ?_)
        refine lv_aload_n hx hb d_X0_persuade_27 rfl (lv_at hl 1 rfl) ?_
        refine r_getr (j := 2) X hw ct0 ob0_b rfl (Nat.le_of_ble_eq_true rfl) (q := (b + 3)) (rt_bed hb_b) wd_79 d_X0_persuade_28 ?_
        refine lv_iload_n hx hb d_X0_persuade_31 rfl (lv_at hl 2 rfl) ?_
        refine lv_iload_n hx hb d_X0_persuade_32 rfl (lv_at hl 3 rfl) ?_
        obtain ⟨hi4, h⟩ := gd_some h
        refine r_iast X hw ob3_b lb3_b hi4 d_X0_persuade_33 (fun H locs hw => ?_)
        refine lv_iload_n hx hb d_X0_persuade_34 rfl (lv_at hl 0 rfl) ?_
        refine lv_iload_n hx hb d_X0_persuade_35 rfl (lv_at hl 3 rfl) ?_
        refine lv_icmp_ne (tgt := 44) hx hb d_X0_persuade_36 (by decide) (fun hc => ?_) (fun hc => ?_)
        · simp only [if_neg hc] at h
          refine lv_bipush (v := (20 : Int32)) hx hb d_X0_persuade_44 (by decide) ?_
          refine lv_iload_n hx hb d_X0_persuade_46 rfl (lv_at hl 0 rfl) ?_
          refine lv_iadd hx hb d_X0_persuade_47 ?_
          obtain rfl := Option.some.inj h
          subst hQ
          exact r_iret X hr hlk hw d_X0_persuade_48
        · simp only [if_pos hc] at h
          refine lv_bipush (v := (-2 : Int32)) hx hb d_X0_persuade_39 (by decide) ?_
          refine lv_goto (tgt := 48) hx hb d_X0_persuade_41 (by decide) ?_
          obtain rfl := Option.some.inj h
          subst hQ
          exact r_iret X hr hlk hw d_X0_persuade_48
      · have h := ite_f h hc
        refine lv_iconst (v := (-1 : Int32)) hx hb d_X0_persuade_18 (by decide) ?_
        obtain rfl := Option.some.inj h
        subst hQ
        exact r_iret X hr hlk hw d_X0_persuade_19
abbrev yX0_cut : MethodName := ⟨"OysterBeds$Bed", "cut", "(I)I"⟩
theorem mwX0_cut : MW yX0_cut prog_2_method_21_code 3 (some .int) 1 := ⟨wd_479, wd_4, by decide +kernel⟩
theorem d_X0_cut_0 : decode prog_2_method_21_code 0 = .ok (.aload_n 0, 1) := by decide +kernel
theorem d_X0_cut_1 : decode prog_2_method_21_code 1 = .ok (.iload_n 1, 1) := by decide +kernel
theorem d_X0_cut_2 : decode prog_2_method_21_code 2 = .ok (.invokevirtual 50, 3) := by decide +kernel
theorem d_X0_cut_5 : decode prog_2_method_21_code 5 = .ok (.ifCond .ne 5, 3) := by decide +kernel
theorem d_X0_cut_8 : decode prog_2_method_21_code 8 = .ok (.iconst (-1), 1) := by decide +kernel
theorem d_X0_cut_9 : decode prog_2_method_21_code 9 = .ok (.ireturn, 1) := by decide +kernel
theorem d_X0_cut_10 : decode prog_2_method_21_code 10 = .ok (.aload_n 0, 1) := by decide +kernel
theorem d_X0_cut_11 : decode prog_2_method_21_code 11 = .ok (.getfield 21, 3) := by decide +kernel
theorem d_X0_cut_14 : decode prog_2_method_21_code 14 = .ok (.iload_n 1, 1) := by decide +kernel
theorem d_X0_cut_15 : decode prog_2_method_21_code 15 = .ok (.iaload, 1) := by decide +kernel
theorem d_X0_cut_16 : decode prog_2_method_21_code 16 = .ok (.ifCond .ne 6, 3) := by decide +kernel
theorem d_X0_cut_19 : decode prog_2_method_21_code 19 = .ok (.bipush (-2), 2) := by decide +kernel
theorem d_X0_cut_21 : decode prog_2_method_21_code 21 = .ok (.ireturn, 1) := by decide +kernel
theorem d_X0_cut_22 : decode prog_2_method_21_code 22 = .ok (.aload_n 0, 1) := by decide +kernel
theorem d_X0_cut_23 : decode prog_2_method_21_code 23 = .ok (.getfield 24, 3) := by decide +kernel
theorem d_X0_cut_26 : decode prog_2_method_21_code 26 = .ok (.iload_n 1, 1) := by decide +kernel
theorem d_X0_cut_27 : decode prog_2_method_21_code 27 = .ok (.iaload, 1) := by decide +kernel
theorem d_X0_cut_28 : decode prog_2_method_21_code 28 = .ok (.istore_n 2, 1) := by decide +kernel
theorem d_X0_cut_29 : decode prog_2_method_21_code 29 = .ok (.aload_n 0, 1) := by decide +kernel
theorem d_X0_cut_30 : decode prog_2_method_21_code 30 = .ok (.getfield 21, 3) := by decide +kernel
theorem d_X0_cut_33 : decode prog_2_method_21_code 33 = .ok (.iload_n 1, 1) := by decide +kernel
theorem d_X0_cut_34 : decode prog_2_method_21_code 34 = .ok (.iconst 0, 1) := by decide +kernel
theorem d_X0_cut_35 : decode prog_2_method_21_code 35 = .ok (.iastore, 1) := by decide +kernel
theorem d_X0_cut_36 : decode prog_2_method_21_code 36 = .ok (.aload_n 0, 1) := by decide +kernel
theorem d_X0_cut_37 : decode prog_2_method_21_code 37 = .ok (.getfield 24, 3) := by decide +kernel
theorem d_X0_cut_40 : decode prog_2_method_21_code 40 = .ok (.iload_n 1, 1) := by decide +kernel
theorem d_X0_cut_41 : decode prog_2_method_21_code 41 = .ok (.iconst 0, 1) := by decide +kernel
theorem d_X0_cut_42 : decode prog_2_method_21_code 42 = .ok (.iastore, 1) := by decide +kernel
theorem d_X0_cut_43 : decode prog_2_method_21_code 43 = .ok (.iload_n 2, 1) := by decide +kernel
theorem d_X0_cut_44 : decode prog_2_method_21_code 44 = .ok (.ireturn, 1) := by decide +kernel
def f_X0_cut (χ : St) (b : Nat) (a1 : Int32) : Option (Int32 × St) := (f_X0_has χ b a1).bind (fun q1 => (if q1 = 0 then some ((-1 : Int32), χ) else gd (inb a1 8) ((if (cA χ (b + 4) a1.toNatClampNeg) = 0 then some ((-2 : Int32), χ) else gd (inb a1 8) (gd (inb a1 8) (gd (inb a1 8) (some ((cA χ (b + 5) a1.toNatClampNeg), (sA (sA χ (b + 4) a1.toNatClampNeg (0 : Int32)) (b + 5) a1.toNatClampNeg (0 : Int32))))))))))
theorem c_X0_cut {l : Launch} {G : gT} {χ σ : St} {b : Nat} {a1 : Int32} (hf : FW G) (hb_b : isBed b = true) {q : Int32 × St} (h : f_X0_cut χ b a1 = some q) : Ct l G yX0_cut prog_2_method_21_code 3 (some .int) 1 21 [.ref (ga G b), .int a1] χ σ (some (.int q.1)) q.2 σ := by
  obtain ⟨ob0_b, ob1_b, ob2_b, ob3_b, ob4_b, ob5_b, lb_b, -, -⟩ := bed_at hf hb_b
  have lb0_b : b < 300 := by omega
  have lb1_b : b + 1 < 300 := by omega
  have lb2_b : b + 2 < 300 := by omega
  have lb3_b : b + 3 < 300 := by omega
  have lb4_b : b + 4 < 300 := by omega
  have lb5_b : b + 5 < 300 := by omega
  refine Ct.of (by decide) (Nat.le_of_ble_eq_true rfl) ?_
  intro p e s m args below meth c Q X hr hlk hQ
  have hx := X.1
  have hb := X.2.1
  intro H locs ls hw hl
  have hl : lv_has ls 3 [(0, .ref (ga G b)), (1, .int a1)] := hl
  unfold f_X0_cut at h
  refine lv_aload_n hx hb d_X0_cut_0 rfl (lv_at hl 0 rfl) ?_
  refine lv_iload_n hx hb d_X0_cut_1 rfl (lv_at hl 1 rfl) ?_
  obtain ⟨q1, e2, h⟩ := bd_some h
  refine r_callV (As := [.int a1]) (rest := []) (st' := [.int q1]) X hw hl mwX0_has wd_409 wd_410 wd_459 (c_X0_has hf hb_b e2) (r_recv X hw ct0 ob0_b) rfl ⟨Nat.le_of_ble_eq_true rfl, Nat.le_of_ble_eq_true rfl⟩ ⟨Nat.le_refl _, Nat.le_refl _⟩ rfl rfl (Nat.le_of_ble_eq_true rfl) d_X0_cut_2 (fun H locs hw => ?_)
  refine lv_if_ne (tgt := 10) hx hb d_X0_cut_5 (by decide) (fun hc => ?_) (fun hc => ?_)
  · have h := ite_f h hc
    refine lv_aload_n hx hb d_X0_cut_10 rfl (lv_at hl 0 rfl) ?_
    refine r_getr (j := 3) X hw ct0 ob0_b rfl (Nat.le_of_ble_eq_true rfl) (q := (b + 4)) (rt_bed hb_b) wd_83 d_X0_cut_11 ?_
    refine lv_iload_n hx hb d_X0_cut_14 rfl (lv_at hl 1 rfl) ?_
    obtain ⟨hi3, h⟩ := gd_some h
    refine r_iald X hw ob4_b lb4_b hi3 d_X0_cut_15 ?_
    refine lv_if_ne (tgt := 22) hx hb d_X0_cut_16 (by decide) (fun hc => ?_) (fun hc => ?_)
    · have h := ite_f h hc
      refine lv_aload_n hx hb d_X0_cut_22 rfl (lv_at hl 0 rfl) ?_
      refine r_getr (j := 4) X hw ct0 ob0_b rfl (Nat.le_of_ble_eq_true rfl) (q := (b + 5)) (rt_bed hb_b) wd_86 d_X0_cut_23 ?_
      refine lv_iload_n hx hb d_X0_cut_26 rfl (lv_at hl 1 rfl) ?_
      obtain ⟨hi4, h⟩ := gd_some h
      refine r_iald X hw ob5_b lb5_b hi4 d_X0_cut_27 ?_
      refine lv_istore_n (lv' := [(2, .int (cA χ (b + 5) a1.toNatClampNeg)), (0, .ref (ga G b)), (1, .int a1)]) hx hb d_X0_cut_28 rfl hl (Nat.le_of_ble_eq_true rfl) rfl (fun ls hl => ?_)
      refine lv_aload_n hx hb d_X0_cut_29 rfl (lv_at hl 1 rfl) ?_
      refine r_getr (j := 3) X hw ct0 ob0_b rfl (Nat.le_of_ble_eq_true rfl) (q := (b + 4)) (rt_bed hb_b) wd_83 d_X0_cut_30 ?_
      refine lv_iload_n hx hb d_X0_cut_33 rfl (lv_at hl 2 rfl) ?_
      refine lv_iconst (v := (0 : Int32)) hx hb d_X0_cut_34 (by decide) ?_
      obtain ⟨hi5, h⟩ := gd_some h
      refine r_iast X hw ob4_b lb4_b hi5 d_X0_cut_35 (fun H locs hw => ?_)
      refine lv_aload_n hx hb d_X0_cut_36 rfl (lv_at hl 1 rfl) ?_
      refine r_getr (j := 4) X hw ct0 ob0_b rfl (Nat.le_of_ble_eq_true rfl) (q := (b + 5)) (rt_bed hb_b) wd_86 d_X0_cut_37 ?_
      refine lv_iload_n hx hb d_X0_cut_40 rfl (lv_at hl 2 rfl) ?_
      refine lv_iconst (v := (0 : Int32)) hx hb d_X0_cut_41 (by decide) ?_
      obtain ⟨hi6, h⟩ := gd_some h
      refine r_iast X hw ob5_b lb5_b hi6 d_X0_cut_42 (fun H locs hw => ?_)
      refine lv_iload_n hx hb d_X0_cut_43 rfl (lv_at hl 0 rfl) ?_
      obtain rfl := Option.some.inj h
      subst hQ
      exact r_iret X hr hlk hw d_X0_cut_44
    · have h := ite_t h hc
      refine lv_bipush (v := (-2 : Int32)) hx hb d_X0_cut_19 (by decide) ?_
      obtain rfl := Option.some.inj h
      subst hQ
      exact r_iret X hr hlk hw d_X0_cut_21
  · have h := ite_t h hc
    refine lv_iconst (v := (-1 : Int32)) hx hb d_X0_cut_8 (by decide) ?_
    obtain rfl := Option.some.inj h
    subst hQ
    exact r_iret X hr hlk hw d_X0_cut_9
abbrev yX1_raised : MethodName := ⟨"OysterBeds$Chances", "raised", "(II)J"⟩
theorem mwX1_raised : MW yX1_raised prog_3_method_2_code 5 (some .long) 2 := ⟨wd_784, wd_22, by decide +kernel⟩
theorem d_X1_raised_0 : decode prog_3_method_2_code 0 = .ok (.lconst 1, 1) := by decide +kernel
theorem d_X1_raised_1 : decode prog_3_method_2_code 1 = .ok (.lstore_n 2, 1) := by decide +kernel
theorem d_X1_raised_2 : decode prog_3_method_2_code 2 = .ok (.iconst 0, 1) := by decide +kernel
theorem d_X1_raised_3 : decode prog_3_method_2_code 3 = .ok (.istore 4, 2) := by decide +kernel
theorem d_X1_raised_5 : decode prog_3_method_2_code 5 = .ok (.iload 4, 2) := by decide +kernel
theorem d_X1_raised_7 : decode prog_3_method_2_code 7 = .ok (.iload_n 1, 1) := by decide +kernel
theorem d_X1_raised_8 : decode prog_3_method_2_code 8 = .ok (.if_icmp .ge 14, 3) := by decide +kernel
theorem d_X1_raised_11 : decode prog_3_method_2_code 11 = .ok (.lload_n 2, 1) := by decide +kernel
theorem d_X1_raised_12 : decode prog_3_method_2_code 12 = .ok (.iload_n 0, 1) := by decide +kernel
theorem d_X1_raised_13 : decode prog_3_method_2_code 13 = .ok (.i2l, 1) := by decide +kernel
theorem d_X1_raised_14 : decode prog_3_method_2_code 14 = .ok (.lmul, 1) := by decide +kernel
theorem d_X1_raised_15 : decode prog_3_method_2_code 15 = .ok (.lstore_n 2, 1) := by decide +kernel
theorem d_X1_raised_16 : decode prog_3_method_2_code 16 = .ok (.iinc 4 1, 3) := by decide +kernel
theorem d_X1_raised_19 : decode prog_3_method_2_code 19 = .ok (.goto (-14), 3) := by decide +kernel
theorem d_X1_raised_22 : decode prog_3_method_2_code 22 = .ok (.lload_n 2, 1) := by decide +kernel
theorem d_X1_raised_23 : decode prog_3_method_2_code 23 = .ok (.lreturn, 1) := by decide +kernel
def f_X1_raised_s5 (y0 : Int32) (y1 : Int32) (x2 : Int64) (x4 : Int32) : Option ((Int64 × Int32) ⊕ (Int64)) := (if y1 ≤ x4 then some (.inr x2) else some (.inl ((x2 * y0.toInt64), (x4 + (1 : Int32)))))
def f_X1_raised (a0 : Int32) (a1 : Int32) : Option (Int64) := (iter (fun z => f_X1_raised_s5 a0 a1 z.1 z.2) FU ((1 : Int64), (0 : Int32))).bind (fun z1 => some z1)
theorem c_X1_raised {l : Launch} {G : gT} {χ σ : St} {a0 : Int32} {a1 : Int32} (hf : FW G) {q : Int64} (h : f_X1_raised a0 a1 = some q) : Ct l G yX1_raised prog_3_method_2_code 5 (some .long) 0 0 [.int a0, .int a1] χ σ (some (.long q)) χ σ := by
  refine Ct.of (by decide) (Nat.le_of_ble_eq_true rfl) ?_
  intro p e s m args below meth c Q X hr hlk hQ
  have hx := X.1
  have hb := X.2.1
  have b5 : ∀ (y0 : Int32) (y1 : Int32) (x2 : Int64) (x4 : Int32) (o : (Int64 × Int32) ⊕ (Int64)), f_X1_raised_s5 y0 y1 x2 x4 = some o → Sum.elim (fun z : Int64 × Int32 => Wat p l e (rmk 0 0) s m args below meth c Q G 5 5 [] [(2, .long z.1), (4, .int z.2), (0, .int y0), (1, .int y1)] χ σ) (fun z : Int64 => Wat p l e (rmk 0 0) s m args below meth c Q G 5 22 [] [(2, .long z)] χ σ) o → Wat p l e (rmk 0 0) s m args below meth c Q G 5 5 [] [(2, .long x2), (4, .int x4), (0, .int y0), (1, .int y1)] χ σ := by
    intro y0 y1 x2 x4 o h hk H locs ls hw hl
    unfold f_X1_raised_s5 at h
    refine lv_iload hx hb d_X1_raised_5 (lv_at hl 1 rfl) ?_
    refine lv_iload_n hx hb d_X1_raised_7 rfl (lv_at hl 3 rfl) ?_
    refine lv_icmp_ge (tgt := 22) hx hb d_X1_raised_8 (by decide) (fun hc => ?_) (fun hc => ?_)
    · have h := ite_t h hc
      obtain rfl := Option.some.inj h
      dsimp only [Sum.elim_inr] at hk
      exact hk _ _ _ hw (lv_sub hl [0] rfl)
    · have h := ite_f h hc
      refine lv_lload_n hx hb d_X1_raised_11 rfl (lv_at hl 0 rfl) ?_
      refine lv_iload_n hx hb d_X1_raised_12 rfl (lv_at hl 2 rfl) ?_
      refine lv_i2l hx hb d_X1_raised_13 rfl ?_
      refine lv_lmul hx hb d_X1_raised_14 ?_
      refine lv_lstore_n (lv' := [(2, .long (x2 * y0.toInt64)), (4, .int x4), (0, .int y0), (1, .int y1)]) hx hb d_X1_raised_15 rfl hl (Nat.le_of_ble_eq_true rfl) rfl (fun ls hl => ?_)
      refine lv_iinc (v := (x4 + (1 : Int32))) (k := 1) (lv' := [(4, .int (x4 + (1 : Int32))), (2, .long (x2 * y0.toInt64)), (0, .int y0), (1, .int y1)]) hx hb d_X1_raised_16 hl rfl (by rfl) (Nat.le_of_ble_eq_true rfl) rfl (fun ls hl => ?_)
      refine lv_goto (tgt := 5) hx hb d_X1_raised_19 (by decide) ?_
      obtain rfl := Option.some.inj h
      dsimp only [Sum.elim_inl] at hk
      exact hk _ _ _ hw (lv_sub hl [1, 0, 2, 3] rfl)
  intro H locs ls hw hl
  have hl : lv_has ls 5 [(0, .int a0), (1, .int a1)] := hl
  unfold f_X1_raised at h
  refine lv_lconst (v := (1 : Int64)) hx hb d_X1_raised_0 (by decide) ?_
  refine lv_lstore_n (lv' := [(2, .long (1 : Int64)), (0, .int a0), (1, .int a1)]) hx hb d_X1_raised_1 rfl hl (Nat.le_of_ble_eq_true rfl) rfl (fun ls hl => ?_)
  refine lv_iconst (v := (0 : Int32)) hx hb d_X1_raised_2 (by decide) ?_
  refine lv_istore (lv' := [(4, .int (0 : Int32)), (2, .long (1 : Int64)), (0, .int a0), (1, .int a1)]) hx hb d_X1_raised_3 hl (Nat.le_of_ble_eq_true rfl) rfl (fun ls hl => ?_)
  obtain ⟨z1, e2, h⟩ := bd_some h
  refine iter_w (Wh := fun z : Int64 × Int32 => Wat p l e (rmk 0 0) s m args below meth c Q G 5 5 [] [(2, .long z.1), (4, .int z.2), (0, .int a0), (1, .int a1)] χ σ) (K := fun z : Int64 => Wat p l e (rmk 0 0) s m args below meth c Q G 5 22 [] [(2, .long z)] χ σ) (fun z o h1 h2 => b5 a0 a1 z.1 z.2 o h1 h2) FU _ _ e2 ?_ _ _ _ hw (lv_sub hl [1, 0, 2, 3] rfl)
  intro H locs ls hw hl
  refine lv_lload_n hx hb d_X1_raised_22 rfl (lv_at hl 0 rfl) ?_
  obtain rfl := Option.some.inj h
  subst hQ
  exact r_lret X hr hlk hw d_X1_raised_23
abbrev yX1_ordersOf : MethodName := ⟨"OysterBeds$Chances", "ordersOf", "(I)J"⟩
theorem mwX1_ordersOf : MW yX1_ordersOf prog_3_method_3_code 4 (some .long) 1 := ⟨wd_643, wd_22, by decide +kernel⟩
theorem d_X1_ordersOf_0 : decode prog_3_method_3_code 0 = .ok (.lconst 1, 1) := by decide +kernel
theorem d_X1_ordersOf_1 : decode prog_3_method_3_code 1 = .ok (.lstore_n 1, 1) := by decide +kernel
theorem d_X1_ordersOf_2 : decode prog_3_method_3_code 2 = .ok (.iconst 2, 1) := by decide +kernel
theorem d_X1_ordersOf_3 : decode prog_3_method_3_code 3 = .ok (.istore_n 3, 1) := by decide +kernel
theorem d_X1_ordersOf_4 : decode prog_3_method_3_code 4 = .ok (.iload_n 3, 1) := by decide +kernel
theorem d_X1_ordersOf_5 : decode prog_3_method_3_code 5 = .ok (.iload_n 0, 1) := by decide +kernel
theorem d_X1_ordersOf_6 : decode prog_3_method_3_code 6 = .ok (.if_icmp .gt 14, 3) := by decide +kernel
theorem d_X1_ordersOf_9 : decode prog_3_method_3_code 9 = .ok (.lload_n 1, 1) := by decide +kernel
theorem d_X1_ordersOf_10 : decode prog_3_method_3_code 10 = .ok (.iload_n 3, 1) := by decide +kernel
theorem d_X1_ordersOf_11 : decode prog_3_method_3_code 11 = .ok (.i2l, 1) := by decide +kernel
theorem d_X1_ordersOf_12 : decode prog_3_method_3_code 12 = .ok (.lmul, 1) := by decide +kernel
theorem d_X1_ordersOf_13 : decode prog_3_method_3_code 13 = .ok (.lstore_n 1, 1) := by decide +kernel
theorem d_X1_ordersOf_14 : decode prog_3_method_3_code 14 = .ok (.iinc 3 1, 3) := by decide +kernel
theorem d_X1_ordersOf_17 : decode prog_3_method_3_code 17 = .ok (.goto (-13), 3) := by decide +kernel
theorem d_X1_ordersOf_20 : decode prog_3_method_3_code 20 = .ok (.lload_n 1, 1) := by decide +kernel
theorem d_X1_ordersOf_21 : decode prog_3_method_3_code 21 = .ok (.lreturn, 1) := by decide +kernel
def f_X1_ordersOf_s4 (y0 : Int32) (x1 : Int64) (x3 : Int32) : Option ((Int64 × Int32) ⊕ (Int64)) := (if y0 < x3 then some (.inr x1) else some (.inl ((x1 * x3.toInt64), (x3 + (1 : Int32)))))
def f_X1_ordersOf (a0 : Int32) : Option (Int64) := (iter (fun z => f_X1_ordersOf_s4 a0 z.1 z.2) FU ((1 : Int64), (2 : Int32))).bind (fun z1 => some z1)
theorem c_X1_ordersOf {l : Launch} {G : gT} {χ σ : St} {a0 : Int32} (hf : FW G) {q : Int64} (h : f_X1_ordersOf a0 = some q) : Ct l G yX1_ordersOf prog_3_method_3_code 4 (some .long) 0 0 [.int a0] χ σ (some (.long q)) χ σ := by
  refine Ct.of (by decide) (Nat.le_of_ble_eq_true rfl) ?_
  intro p e s m args below meth c Q X hr hlk hQ
  have hx := X.1
  have hb := X.2.1
  have b4 : ∀ (y0 : Int32) (x1 : Int64) (x3 : Int32) (o : (Int64 × Int32) ⊕ (Int64)), f_X1_ordersOf_s4 y0 x1 x3 = some o → Sum.elim (fun z : Int64 × Int32 => Wat p l e (rmk 0 0) s m args below meth c Q G 4 4 [] [(1, .long z.1), (3, .int z.2), (0, .int y0)] χ σ) (fun z : Int64 => Wat p l e (rmk 0 0) s m args below meth c Q G 4 20 [] [(1, .long z)] χ σ) o → Wat p l e (rmk 0 0) s m args below meth c Q G 4 4 [] [(1, .long x1), (3, .int x3), (0, .int y0)] χ σ := by
    intro y0 x1 x3 o h hk H locs ls hw hl
    unfold f_X1_ordersOf_s4 at h
    refine lv_iload_n hx hb d_X1_ordersOf_4 rfl (lv_at hl 1 rfl) ?_
    refine lv_iload_n hx hb d_X1_ordersOf_5 rfl (lv_at hl 2 rfl) ?_
    refine lv_icmp_gt (tgt := 20) hx hb d_X1_ordersOf_6 (by decide) (fun hc => ?_) (fun hc => ?_)
    · have h := ite_t h hc
      obtain rfl := Option.some.inj h
      dsimp only [Sum.elim_inr] at hk
      exact hk _ _ _ hw (lv_sub hl [0] rfl)
    · have h := ite_f h hc
      refine lv_lload_n hx hb d_X1_ordersOf_9 rfl (lv_at hl 0 rfl) ?_
      refine lv_iload_n hx hb d_X1_ordersOf_10 rfl (lv_at hl 1 rfl) ?_
      refine lv_i2l hx hb d_X1_ordersOf_11 rfl ?_
      refine lv_lmul hx hb d_X1_ordersOf_12 ?_
      refine lv_lstore_n (lv' := [(1, .long (x1 * x3.toInt64)), (3, .int x3), (0, .int y0)]) hx hb d_X1_ordersOf_13 rfl hl (Nat.le_of_ble_eq_true rfl) rfl (fun ls hl => ?_)
      refine lv_iinc (v := (x3 + (1 : Int32))) (k := 1) (lv' := [(3, .int (x3 + (1 : Int32))), (1, .long (x1 * x3.toInt64)), (0, .int y0)]) hx hb d_X1_ordersOf_14 hl rfl (by rfl) (Nat.le_of_ble_eq_true rfl) rfl (fun ls hl => ?_)
      refine lv_goto (tgt := 4) hx hb d_X1_ordersOf_17 (by decide) ?_
      obtain rfl := Option.some.inj h
      dsimp only [Sum.elim_inl] at hk
      exact hk _ _ _ hw (lv_sub hl [1, 0, 2] rfl)
  intro H locs ls hw hl
  have hl : lv_has ls 4 [(0, .int a0)] := hl
  unfold f_X1_ordersOf at h
  refine lv_lconst (v := (1 : Int64)) hx hb d_X1_ordersOf_0 (by decide) ?_
  refine lv_lstore_n (lv' := [(1, .long (1 : Int64)), (0, .int a0)]) hx hb d_X1_ordersOf_1 rfl hl (Nat.le_of_ble_eq_true rfl) rfl (fun ls hl => ?_)
  refine lv_iconst (v := (2 : Int32)) hx hb d_X1_ordersOf_2 (by decide) ?_
  refine lv_istore_n (lv' := [(3, .int (2 : Int32)), (1, .long (1 : Int64)), (0, .int a0)]) hx hb d_X1_ordersOf_3 rfl hl (Nat.le_of_ble_eq_true rfl) rfl (fun ls hl => ?_)
  obtain ⟨z1, e2, h⟩ := bd_some h
  refine iter_w (Wh := fun z : Int64 × Int32 => Wat p l e (rmk 0 0) s m args below meth c Q G 4 4 [] [(1, .long z.1), (3, .int z.2), (0, .int a0)] χ σ) (K := fun z : Int64 => Wat p l e (rmk 0 0) s m args below meth c Q G 4 20 [] [(1, .long z)] χ σ) (fun z o h1 h2 => b4 a0 z.1 z.2 o h1 h2) FU _ _ e2 ?_ _ _ _ hw (lv_sub hl [1, 0, 2] rfl)
  intro H locs ls hw hl
  refine lv_lload_n hx hb d_X1_ordersOf_20 rfl (lv_at hl 0 rfl) ?_
  obtain rfl := Option.some.inj h
  subst hQ
  exact r_lret X hr hlk hw d_X1_ordersOf_21
abbrev yX1_setsOf : MethodName := ⟨"OysterBeds$Chances", "setsOf", "(II)J"⟩
theorem mwX1_setsOf : MW yX1_setsOf prog_3_method_4_code 5 (some .long) 2 := ⟨wd_778, wd_22, by decide +kernel⟩
theorem d_X1_setsOf_0 : decode prog_3_method_4_code 0 = .ok (.iload_n 0, 1) := by decide +kernel
theorem d_X1_setsOf_1 : decode prog_3_method_4_code 1 = .ok (.ifCond .lt 8, 3) := by decide +kernel
theorem d_X1_setsOf_4 : decode prog_3_method_4_code 4 = .ok (.iload_n 0, 1) := by decide +kernel
theorem d_X1_setsOf_5 : decode prog_3_method_4_code 5 = .ok (.iload_n 1, 1) := by decide +kernel
theorem d_X1_setsOf_6 : decode prog_3_method_4_code 6 = .ok (.if_icmp .le 5, 3) := by decide +kernel
theorem d_X1_setsOf_9 : decode prog_3_method_4_code 9 = .ok (.lconst 0, 1) := by decide +kernel
theorem d_X1_setsOf_10 : decode prog_3_method_4_code 10 = .ok (.lreturn, 1) := by decide +kernel
theorem d_X1_setsOf_11 : decode prog_3_method_4_code 11 = .ok (.lconst 1, 1) := by decide +kernel
theorem d_X1_setsOf_12 : decode prog_3_method_4_code 12 = .ok (.lstore_n 2, 1) := by decide +kernel
theorem d_X1_setsOf_13 : decode prog_3_method_4_code 13 = .ok (.iconst 1, 1) := by decide +kernel
theorem d_X1_setsOf_14 : decode prog_3_method_4_code 14 = .ok (.istore 4, 2) := by decide +kernel
theorem d_X1_setsOf_16 : decode prog_3_method_4_code 16 = .ok (.iload 4, 2) := by decide +kernel
theorem d_X1_setsOf_18 : decode prog_3_method_4_code 18 = .ok (.iload_n 0, 1) := by decide +kernel
theorem d_X1_setsOf_19 : decode prog_3_method_4_code 19 = .ok (.if_icmp .gt 23, 3) := by decide +kernel
theorem d_X1_setsOf_22 : decode prog_3_method_4_code 22 = .ok (.lload_n 2, 1) := by decide +kernel
theorem d_X1_setsOf_23 : decode prog_3_method_4_code 23 = .ok (.iload_n 1, 1) := by decide +kernel
theorem d_X1_setsOf_24 : decode prog_3_method_4_code 24 = .ok (.iload_n 0, 1) := by decide +kernel
theorem d_X1_setsOf_25 : decode prog_3_method_4_code 25 = .ok (.isub, 1) := by decide +kernel
theorem d_X1_setsOf_26 : decode prog_3_method_4_code 26 = .ok (.iload 4, 2) := by decide +kernel
theorem d_X1_setsOf_28 : decode prog_3_method_4_code 28 = .ok (.iadd, 1) := by decide +kernel
theorem d_X1_setsOf_29 : decode prog_3_method_4_code 29 = .ok (.i2l, 1) := by decide +kernel
theorem d_X1_setsOf_30 : decode prog_3_method_4_code 30 = .ok (.lmul, 1) := by decide +kernel
theorem d_X1_setsOf_31 : decode prog_3_method_4_code 31 = .ok (.iload 4, 2) := by decide +kernel
theorem d_X1_setsOf_33 : decode prog_3_method_4_code 33 = .ok (.i2l, 1) := by decide +kernel
theorem d_X1_setsOf_34 : decode prog_3_method_4_code 34 = .ok (.ldiv, 1) := by decide +kernel
theorem d_X1_setsOf_35 : decode prog_3_method_4_code 35 = .ok (.lstore_n 2, 1) := by decide +kernel
theorem d_X1_setsOf_36 : decode prog_3_method_4_code 36 = .ok (.iinc 4 1, 3) := by decide +kernel
theorem d_X1_setsOf_39 : decode prog_3_method_4_code 39 = .ok (.goto (-23), 3) := by decide +kernel
theorem d_X1_setsOf_42 : decode prog_3_method_4_code 42 = .ok (.lload_n 2, 1) := by decide +kernel
theorem d_X1_setsOf_43 : decode prog_3_method_4_code 43 = .ok (.lreturn, 1) := by decide +kernel
def f_X1_setsOf_s16 (y0 : Int32) (y1 : Int32) (x2 : Int64) (x4 : Int32) : Option ((Int64 × Int32) ⊕ (Int64)) := (if y0 < x4 then some (.inr x2) else gd (nzl x4.toInt64) (some (.inl (((x2 * ((y1 - y0) + x4).toInt64) / x4.toInt64), (x4 + (1 : Int32))))))
def f_X1_setsOf (a0 : Int32) (a1 : Int32) : Option (Int64) := (if a0 < 0 then some (0 : Int64) else (if a0 ≤ a1 then (iter (fun z => f_X1_setsOf_s16 a0 a1 z.1 z.2) FU ((1 : Int64), (1 : Int32))).bind (fun z2 => some z2) else some (0 : Int64)))
theorem c_X1_setsOf {l : Launch} {G : gT} {χ σ : St} {a0 : Int32} {a1 : Int32} (hf : FW G) {q : Int64} (h : f_X1_setsOf a0 a1 = some q) : Ct l G yX1_setsOf prog_3_method_4_code 5 (some .long) 0 0 [.int a0, .int a1] χ σ (some (.long q)) χ σ := by
  refine Ct.of (by decide) (Nat.le_of_ble_eq_true rfl) ?_
  intro p e s m args below meth c Q X hr hlk hQ
  have hx := X.1
  have hb := X.2.1
  have b16 : ∀ (y0 : Int32) (y1 : Int32) (x2 : Int64) (x4 : Int32) (o : (Int64 × Int32) ⊕ (Int64)), f_X1_setsOf_s16 y0 y1 x2 x4 = some o → Sum.elim (fun z : Int64 × Int32 => Wat p l e (rmk 0 0) s m args below meth c Q G 5 16 [] [(2, .long z.1), (4, .int z.2), (0, .int y0), (1, .int y1)] χ σ) (fun z : Int64 => Wat p l e (rmk 0 0) s m args below meth c Q G 5 42 [] [(2, .long z)] χ σ) o → Wat p l e (rmk 0 0) s m args below meth c Q G 5 16 [] [(2, .long x2), (4, .int x4), (0, .int y0), (1, .int y1)] χ σ := by
    intro y0 y1 x2 x4 o h hk H locs ls hw hl
    unfold f_X1_setsOf_s16 at h
    refine lv_iload hx hb d_X1_setsOf_16 (lv_at hl 1 rfl) ?_
    refine lv_iload_n hx hb d_X1_setsOf_18 rfl (lv_at hl 2 rfl) ?_
    refine lv_icmp_gt (tgt := 42) hx hb d_X1_setsOf_19 (by decide) (fun hc => ?_) (fun hc => ?_)
    · have h := ite_t h hc
      obtain rfl := Option.some.inj h
      dsimp only [Sum.elim_inr] at hk
      exact hk _ _ _ hw (lv_sub hl [0] rfl)
    · have h := ite_f h hc
      refine lv_lload_n hx hb d_X1_setsOf_22 rfl (lv_at hl 0 rfl) ?_
      refine lv_iload_n hx hb d_X1_setsOf_23 rfl (lv_at hl 3 rfl) ?_
      refine lv_iload_n hx hb d_X1_setsOf_24 rfl (lv_at hl 2 rfl) ?_
      refine lv_isub hx hb d_X1_setsOf_25 ?_
      refine lv_iload hx hb d_X1_setsOf_26 (lv_at hl 1 rfl) ?_
      refine lv_iadd hx hb d_X1_setsOf_28 ?_
      refine lv_i2l hx hb d_X1_setsOf_29 rfl ?_
      refine lv_lmul hx hb d_X1_setsOf_30 ?_
      refine lv_iload hx hb d_X1_setsOf_31 (lv_at hl 1 rfl) ?_
      refine lv_i2l hx hb d_X1_setsOf_33 rfl ?_
      obtain ⟨hz1, h⟩ := gd_some h
      refine lv_ldiv hx hb d_X1_setsOf_34 (nzl_ne hz1) ?_
      refine lv_lstore_n (lv' := [(2, .long ((x2 * ((y1 - y0) + x4).toInt64) / x4.toInt64)), (4, .int x4), (0, .int y0), (1, .int y1)]) hx hb d_X1_setsOf_35 rfl hl (Nat.le_of_ble_eq_true rfl) rfl (fun ls hl => ?_)
      refine lv_iinc (v := (x4 + (1 : Int32))) (k := 1) (lv' := [(4, .int (x4 + (1 : Int32))), (2, .long ((x2 * ((y1 - y0) + x4).toInt64) / x4.toInt64)), (0, .int y0), (1, .int y1)]) hx hb d_X1_setsOf_36 hl rfl (by rfl) (Nat.le_of_ble_eq_true rfl) rfl (fun ls hl => ?_)
      refine lv_goto (tgt := 16) hx hb d_X1_setsOf_39 (by decide) ?_
      obtain rfl := Option.some.inj h
      dsimp only [Sum.elim_inl] at hk
      exact hk _ _ _ hw (lv_sub hl [1, 0, 2, 3] rfl)
  intro H locs ls hw hl
  have hl : lv_has ls 5 [(0, .int a0), (1, .int a1)] := hl
  unfold f_X1_setsOf at h
  refine lv_iload_n hx hb d_X1_setsOf_0 rfl (lv_at hl 0 rfl) ?_
  refine lv_if_lt (tgt := 9) hx hb d_X1_setsOf_1 (by decide) (fun hc => ?_) (fun hc => ?_)
  · have h := ite_t h hc
    refine lv_lconst (v := (0 : Int64)) hx hb d_X1_setsOf_9 (by decide) ?_
    obtain rfl := Option.some.inj h
    subst hQ
    exact r_lret X hr hlk hw d_X1_setsOf_10
  · have h := ite_f h hc
    refine lv_iload_n hx hb d_X1_setsOf_4 rfl (lv_at hl 0 rfl) ?_
    refine lv_iload_n hx hb d_X1_setsOf_5 rfl (lv_at hl 1 rfl) ?_
    refine lv_icmp_le (tgt := 11) hx hb d_X1_setsOf_6 (by decide) (fun hc => ?_) (fun hc => ?_)
    · have h := ite_t h hc
      refine lv_lconst (v := (1 : Int64)) hx hb d_X1_setsOf_11 (by decide) ?_
      refine lv_lstore_n (lv' := [(2, .long (1 : Int64)), (0, .int a0), (1, .int a1)]) hx hb d_X1_setsOf_12 rfl hl (Nat.le_of_ble_eq_true rfl) rfl (fun ls hl => ?_)
      refine lv_iconst (v := (1 : Int32)) hx hb d_X1_setsOf_13 (by decide) ?_
      refine lv_istore (lv' := [(4, .int (1 : Int32)), (2, .long (1 : Int64)), (0, .int a0), (1, .int a1)]) hx hb d_X1_setsOf_14 hl (Nat.le_of_ble_eq_true rfl) rfl (fun ls hl => ?_)
      obtain ⟨z2, e3, h⟩ := bd_some h
      refine iter_w (Wh := fun z : Int64 × Int32 => Wat p l e (rmk 0 0) s m args below meth c Q G 5 16 [] [(2, .long z.1), (4, .int z.2), (0, .int a0), (1, .int a1)] χ σ) (K := fun z : Int64 => Wat p l e (rmk 0 0) s m args below meth c Q G 5 42 [] [(2, .long z)] χ σ) (fun z o h1 h2 => b16 a0 a1 z.1 z.2 o h1 h2) FU _ _ e3 ?_ _ _ _ hw (lv_sub hl [1, 0, 2, 3] rfl)
      intro H locs ls hw hl
      refine lv_lload_n hx hb d_X1_setsOf_42 rfl (lv_at hl 0 rfl) ?_
      obtain rfl := Option.some.inj h
      subst hQ
      exact r_lret X hr hlk hw d_X1_setsOf_43
    · have h := ite_f h hc
      refine lv_lconst (v := (0 : Int64)) hx hb d_X1_setsOf_9 (by decide) ?_
      obtain rfl := Option.some.inj h
      subst hQ
      exact r_lret X hr hlk hw d_X1_setsOf_10
abbrev yX1_justThese : MethodName := ⟨"OysterBeds$Chances", "justThese", "(III)J"⟩
theorem mwX1_justThese : MW yX1_justThese prog_3_method_5_code 3 (some .long) 3 := ⟨wd_781, wd_22, by decide +kernel⟩
theorem d_X1_justThese_0 : decode prog_3_method_5_code 0 = .ok (.iload_n 0, 1) := by decide +kernel
theorem d_X1_justThese_1 : decode prog_3_method_5_code 1 = .ok (.iload_n 2, 1) := by decide +kernel
theorem d_X1_justThese_2 : decode prog_3_method_5_code 2 = .ok (.invokestatic 9, 3) := by decide +kernel
theorem d_X1_justThese_5 : decode prog_3_method_5_code 5 = .ok (.bipush 10, 2) := by decide +kernel
theorem d_X1_justThese_7 : decode prog_3_method_5_code 7 = .ok (.iload_n 0, 1) := by decide +kernel
theorem d_X1_justThese_8 : decode prog_3_method_5_code 8 = .ok (.isub, 1) := by decide +kernel
theorem d_X1_justThese_9 : decode prog_3_method_5_code 9 = .ok (.iload_n 1, 1) := by decide +kernel
theorem d_X1_justThese_10 : decode prog_3_method_5_code 10 = .ok (.iload_n 2, 1) := by decide +kernel
theorem d_X1_justThese_11 : decode prog_3_method_5_code 11 = .ok (.isub, 1) := by decide +kernel
theorem d_X1_justThese_12 : decode prog_3_method_5_code 12 = .ok (.invokestatic 9, 3) := by decide +kernel
theorem d_X1_justThese_15 : decode prog_3_method_5_code 15 = .ok (.lmul, 1) := by decide +kernel
theorem d_X1_justThese_16 : decode prog_3_method_5_code 16 = .ok (.lreturn, 1) := by decide +kernel
def f_X1_justThese (a0 : Int32) (a1 : Int32) (a2 : Int32) : Option (Int64) := (f_X1_raised a0 a2).bind (fun q1 => (f_X1_raised ((10 : Int32) - a0) (a1 - a2)).bind (fun q3 => some (q1 * q3)))
theorem c_X1_justThese {l : Launch} {G : gT} {χ σ : St} {a0 : Int32} {a1 : Int32} {a2 : Int32} (hf : FW G) {q : Int64} (h : f_X1_justThese a0 a1 a2 = some q) : Ct l G yX1_justThese prog_3_method_5_code 3 (some .long) 1 24 [.int a0, .int a1, .int a2] χ σ (some (.long q)) χ σ := by
  refine Ct.of (by decide) (Nat.le_of_ble_eq_true rfl) ?_
  intro p e s m args below meth c Q X hr hlk hQ
  have hx := X.1
  have hb := X.2.1
  intro H locs ls hw hl
  have hl : lv_has ls 3 [(0, .int a0), (1, .int a1), (2, .int a2)] := hl
  unfold f_X1_justThese at h
  refine lv_iload_n hx hb d_X1_justThese_0 rfl (lv_at hl 0 rfl) ?_
  refine lv_iload_n hx hb d_X1_justThese_1 rfl (lv_at hl 2 rfl) ?_
  obtain ⟨q1, e2, h⟩ := bd_some h
  refine r_callS (As := [.int a0, .int a2]) (rest := []) (st' := [.long q1]) X hw hl mwX1_raised wd_783 wd_782 (c_X1_raised hf e2) rfl ⟨Nat.le_of_ble_eq_true rfl, Nat.le_of_ble_eq_true rfl⟩ ⟨Nat.le_refl _, Nat.le_refl _⟩ rfl rfl (Nat.le_of_ble_eq_true rfl) d_X1_justThese_2 (fun H locs hw => ?_)
  refine lv_bipush (v := (10 : Int32)) hx hb d_X1_justThese_5 (by decide) ?_
  refine lv_iload_n hx hb d_X1_justThese_7 rfl (lv_at hl 0 rfl) ?_
  refine lv_isub hx hb d_X1_justThese_8 ?_
  refine lv_iload_n hx hb d_X1_justThese_9 rfl (lv_at hl 1 rfl) ?_
  refine lv_iload_n hx hb d_X1_justThese_10 rfl (lv_at hl 2 rfl) ?_
  refine lv_isub hx hb d_X1_justThese_11 ?_
  obtain ⟨q3, e4, h⟩ := bd_some h
  refine r_callS (As := [.int ((10 : Int32) - a0), .int (a1 - a2)]) (rest := [.long q1]) (st' := [.long q3, .long q1]) X hw hl mwX1_raised wd_783 wd_782 (c_X1_raised hf e4) rfl ⟨Nat.le_of_ble_eq_true rfl, Nat.le_of_ble_eq_true rfl⟩ ⟨Nat.le_refl _, Nat.le_refl _⟩ rfl rfl (Nat.le_of_ble_eq_true rfl) d_X1_justThese_12 (fun H locs hw => ?_)
  refine lv_lmul hx hb d_X1_justThese_15 ?_
  obtain rfl := Option.some.inj h
  subst hQ
  exact r_lret X hr hlk hw d_X1_justThese_16
abbrev yX1_justSoMany : MethodName := ⟨"OysterBeds$Chances", "justSoMany", "(III)J"⟩
theorem mwX1_justSoMany : MW yX1_justSoMany prog_3_method_7_code 3 (some .long) 3 := ⟨wd_775, wd_22, by decide +kernel⟩
theorem d_X1_justSoMany_0 : decode prog_3_method_7_code 0 = .ok (.iload_n 2, 1) := by decide +kernel
theorem d_X1_justSoMany_1 : decode prog_3_method_7_code 1 = .ok (.iload_n 1, 1) := by decide +kernel
theorem d_X1_justSoMany_2 : decode prog_3_method_7_code 2 = .ok (.invokestatic 19, 3) := by decide +kernel
theorem d_X1_justSoMany_5 : decode prog_3_method_7_code 5 = .ok (.iload_n 0, 1) := by decide +kernel
theorem d_X1_justSoMany_6 : decode prog_3_method_7_code 6 = .ok (.iload_n 1, 1) := by decide +kernel
theorem d_X1_justSoMany_7 : decode prog_3_method_7_code 7 = .ok (.iload_n 2, 1) := by decide +kernel
theorem d_X1_justSoMany_8 : decode prog_3_method_7_code 8 = .ok (.invokestatic 22, 3) := by decide +kernel
theorem d_X1_justSoMany_11 : decode prog_3_method_7_code 11 = .ok (.lmul, 1) := by decide +kernel
theorem d_X1_justSoMany_12 : decode prog_3_method_7_code 12 = .ok (.lreturn, 1) := by decide +kernel
def f_X1_justSoMany (a0 : Int32) (a1 : Int32) (a2 : Int32) : Option (Int64) := (f_X1_setsOf a2 a1).bind (fun q1 => (f_X1_justThese a0 a1 a2).bind (fun q3 => some (q1 * q3)))
theorem c_X1_justSoMany {l : Launch} {G : gT} {χ σ : St} {a0 : Int32} {a1 : Int32} {a2 : Int32} (hf : FW G) {q : Int64} (h : f_X1_justSoMany a0 a1 a2 = some q) : Ct l G yX1_justSoMany prog_3_method_7_code 3 (some .long) 2 46 [.int a0, .int a1, .int a2] χ σ (some (.long q)) χ σ := by
  refine Ct.of (by decide) (Nat.le_of_ble_eq_true rfl) ?_
  intro p e s m args below meth c Q X hr hlk hQ
  have hx := X.1
  have hb := X.2.1
  intro H locs ls hw hl
  have hl : lv_has ls 3 [(0, .int a0), (1, .int a1), (2, .int a2)] := hl
  unfold f_X1_justSoMany at h
  refine lv_iload_n hx hb d_X1_justSoMany_0 rfl (lv_at hl 2 rfl) ?_
  refine lv_iload_n hx hb d_X1_justSoMany_1 rfl (lv_at hl 1 rfl) ?_
  obtain ⟨q1, e2, h⟩ := bd_some h
  refine r_callS (As := [.int a2, .int a1]) (rest := []) (st' := [.long q1]) X hw hl mwX1_setsOf wd_777 wd_776 (c_X1_setsOf hf e2) rfl ⟨Nat.le_of_ble_eq_true rfl, Nat.le_of_ble_eq_true rfl⟩ ⟨Nat.le_refl _, Nat.le_refl _⟩ rfl rfl (Nat.le_of_ble_eq_true rfl) d_X1_justSoMany_2 (fun H locs hw => ?_)
  refine lv_iload_n hx hb d_X1_justSoMany_5 rfl (lv_at hl 0 rfl) ?_
  refine lv_iload_n hx hb d_X1_justSoMany_6 rfl (lv_at hl 1 rfl) ?_
  refine lv_iload_n hx hb d_X1_justSoMany_7 rfl (lv_at hl 2 rfl) ?_
  obtain ⟨q3, e4, h⟩ := bd_some h
  refine r_callS (As := [.int a0, .int a1, .int a2]) (rest := [.long q1]) (st' := [.long q3, .long q1]) X hw hl mwX1_justThese wd_780 wd_779 (c_X1_justThese hf e4) rfl ⟨Nat.le_of_ble_eq_true rfl, Nat.le_of_ble_eq_true rfl⟩ ⟨Nat.le_refl _, Nat.le_refl _⟩ rfl rfl (Nat.le_of_ble_eq_true rfl) d_X1_justSoMany_8 (fun H locs hw => ?_)
  refine lv_lmul hx hb d_X1_justSoMany_11 ?_
  obtain rfl := Option.some.inj h
  subst hQ
  exact r_lret X hr hlk hw d_X1_justSoMany_12
abbrev yX1_slipsTo : MethodName := ⟨"OysterBeds$Chances", "slipsTo", "(IIII)J"⟩
theorem mwX1_slipsTo : MW yX1_slipsTo prog_3_method_6_code 7 (some .long) 4 := ⟨wd_772, wd_22, by decide +kernel⟩
theorem d_X1_slipsTo_0 : decode prog_3_method_6_code 0 = .ok (.lconst 0, 1) := by decide +kernel
theorem d_X1_slipsTo_1 : decode prog_3_method_6_code 1 = .ok (.lstore 4, 2) := by decide +kernel
theorem d_X1_slipsTo_3 : decode prog_3_method_6_code 3 = .ok (.iconst 0, 1) := by decide +kernel
theorem d_X1_slipsTo_4 : decode prog_3_method_6_code 4 = .ok (.istore 6, 2) := by decide +kernel
theorem d_X1_slipsTo_6 : decode prog_3_method_6_code 6 = .ok (.iload 6, 2) := by decide +kernel
theorem d_X1_slipsTo_8 : decode prog_3_method_6_code 8 = .ok (.iload_n 0, 1) := by decide +kernel
theorem d_X1_slipsTo_9 : decode prog_3_method_6_code 9 = .ok (.if_icmp .gt 34, 3) := by decide +kernel
theorem d_X1_slipsTo_12 : decode prog_3_method_6_code 12 = .ok (.lload 4, 2) := by decide +kernel
theorem d_X1_slipsTo_14 : decode prog_3_method_6_code 14 = .ok (.bipush 10, 2) := by decide +kernel
theorem d_X1_slipsTo_16 : decode prog_3_method_6_code 16 = .ok (.iload_n 3, 1) := by decide +kernel
theorem d_X1_slipsTo_17 : decode prog_3_method_6_code 17 = .ok (.isub, 1) := by decide +kernel
theorem d_X1_slipsTo_18 : decode prog_3_method_6_code 18 = .ok (.iload_n 1, 1) := by decide +kernel
theorem d_X1_slipsTo_19 : decode prog_3_method_6_code 19 = .ok (.iload 6, 2) := by decide +kernel
theorem d_X1_slipsTo_21 : decode prog_3_method_6_code 21 = .ok (.invokestatic 15, 3) := by decide +kernel
theorem d_X1_slipsTo_24 : decode prog_3_method_6_code 24 = .ok (.iload_n 3, 1) := by decide +kernel
theorem d_X1_slipsTo_25 : decode prog_3_method_6_code 25 = .ok (.iload_n 2, 1) := by decide +kernel
theorem d_X1_slipsTo_26 : decode prog_3_method_6_code 26 = .ok (.iload_n 0, 1) := by decide +kernel
theorem d_X1_slipsTo_27 : decode prog_3_method_6_code 27 = .ok (.iload 6, 2) := by decide +kernel
theorem d_X1_slipsTo_29 : decode prog_3_method_6_code 29 = .ok (.isub, 1) := by decide +kernel
theorem d_X1_slipsTo_30 : decode prog_3_method_6_code 30 = .ok (.invokestatic 15, 3) := by decide +kernel
theorem d_X1_slipsTo_33 : decode prog_3_method_6_code 33 = .ok (.lmul, 1) := by decide +kernel
theorem d_X1_slipsTo_34 : decode prog_3_method_6_code 34 = .ok (.ladd, 1) := by decide +kernel
theorem d_X1_slipsTo_35 : decode prog_3_method_6_code 35 = .ok (.lstore 4, 2) := by decide +kernel
theorem d_X1_slipsTo_37 : decode prog_3_method_6_code 37 = .ok (.iinc 6 1, 3) := by decide +kernel
theorem d_X1_slipsTo_40 : decode prog_3_method_6_code 40 = .ok (.goto (-34), 3) := by decide +kernel
theorem d_X1_slipsTo_43 : decode prog_3_method_6_code 43 = .ok (.lload 4, 2) := by decide +kernel
theorem d_X1_slipsTo_45 : decode prog_3_method_6_code 45 = .ok (.lreturn, 1) := by decide +kernel
def f_X1_slipsTo_s6 (y0 : Int32) (y1 : Int32) (y2 : Int32) (y3 : Int32) (x4 : Int64) (x6 : Int32) : Option ((Int64 × Int32) ⊕ (Int64)) := (if y0 < x6 then some (.inr x4) else (f_X1_justSoMany ((10 : Int32) - y3) y1 x6).bind (fun q1 => (f_X1_justSoMany y3 y2 (y0 - x6)).bind (fun q3 => some (.inl ((x4 + (q1 * q3)), (x6 + (1 : Int32)))))))
def f_X1_slipsTo (a0 : Int32) (a1 : Int32) (a2 : Int32) (a3 : Int32) : Option (Int64) := (iter (fun z => f_X1_slipsTo_s6 a0 a1 a2 a3 z.1 z.2) FU ((0 : Int64), (0 : Int32))).bind (fun z5 => some z5)
theorem c_X1_slipsTo {l : Launch} {G : gT} {χ σ : St} {a0 : Int32} {a1 : Int32} {a2 : Int32} {a3 : Int32} (hf : FW G) {q : Int64} (h : f_X1_slipsTo a0 a1 a2 a3 = some q) : Ct l G yX1_slipsTo prog_3_method_6_code 7 (some .long) 3 68 [.int a0, .int a1, .int a2, .int a3] χ σ (some (.long q)) χ σ := by
  refine Ct.of (by decide) (Nat.le_of_ble_eq_true rfl) ?_
  intro p e s m args below meth c Q X hr hlk hQ
  have hx := X.1
  have hb := X.2.1
  have b6 : ∀ (y0 : Int32) (y1 : Int32) (y2 : Int32) (y3 : Int32) (x4 : Int64) (x6 : Int32) (o : (Int64 × Int32) ⊕ (Int64)), f_X1_slipsTo_s6 y0 y1 y2 y3 x4 x6 = some o → Sum.elim (fun z : Int64 × Int32 => Wat p l e (rmk 3 68) s m args below meth c Q G 7 6 [] [(4, .long z.1), (6, .int z.2), (0, .int y0), (1, .int y1), (2, .int y2), (3, .int y3)] χ σ) (fun z : Int64 => Wat p l e (rmk 3 68) s m args below meth c Q G 7 43 [] [(4, .long z)] χ σ) o → Wat p l e (rmk 3 68) s m args below meth c Q G 7 6 [] [(4, .long x4), (6, .int x6), (0, .int y0), (1, .int y1), (2, .int y2), (3, .int y3)] χ σ := by
    intro y0 y1 y2 y3 x4 x6 o h hk H locs ls hw hl
    unfold f_X1_slipsTo_s6 at h
    refine lv_iload hx hb d_X1_slipsTo_6 (lv_at hl 1 rfl) ?_
    refine lv_iload_n hx hb d_X1_slipsTo_8 rfl (lv_at hl 2 rfl) ?_
    refine lv_icmp_gt (tgt := 43) hx hb d_X1_slipsTo_9 (by decide) (fun hc => ?_) (fun hc => ?_)
    · have h := ite_t h hc
      obtain rfl := Option.some.inj h
      dsimp only [Sum.elim_inr] at hk
      exact hk _ _ _ hw (lv_sub hl [0] rfl)
    · have h := ite_f h hc
      refine lv_lload hx hb d_X1_slipsTo_12 (lv_at hl 0 rfl) ?_
      refine lv_bipush (v := (10 : Int32)) hx hb d_X1_slipsTo_14 (by decide) ?_
      refine lv_iload_n hx hb d_X1_slipsTo_16 rfl (lv_at hl 5 rfl) ?_
      refine lv_isub hx hb d_X1_slipsTo_17 ?_
      refine lv_iload_n hx hb d_X1_slipsTo_18 rfl (lv_at hl 3 rfl) ?_
      refine lv_iload hx hb d_X1_slipsTo_19 (lv_at hl 1 rfl) ?_
      obtain ⟨q1, e2, h⟩ := bd_some h
      refine r_callS (As := [.int ((10 : Int32) - y3), .int y1, .int x6]) (rest := [.long x4]) (st' := [.long q1, .long x4]) X hw hl mwX1_justSoMany wd_774 wd_773 (c_X1_justSoMany hf e2) rfl ⟨Nat.le_of_ble_eq_true rfl, Nat.le_of_ble_eq_true rfl⟩ ⟨Nat.le_refl _, Nat.le_refl _⟩ rfl rfl (Nat.le_of_ble_eq_true rfl) d_X1_slipsTo_21 (fun H locs hw => ?_)
      refine lv_iload_n hx hb d_X1_slipsTo_24 rfl (lv_at hl 5 rfl) ?_
      refine lv_iload_n hx hb d_X1_slipsTo_25 rfl (lv_at hl 4 rfl) ?_
      refine lv_iload_n hx hb d_X1_slipsTo_26 rfl (lv_at hl 2 rfl) ?_
      refine lv_iload hx hb d_X1_slipsTo_27 (lv_at hl 1 rfl) ?_
      refine lv_isub hx hb d_X1_slipsTo_29 ?_
      obtain ⟨q3, e4, h⟩ := bd_some h
      refine r_callS (As := [.int y3, .int y2, .int (y0 - x6)]) (rest := [.long q1, .long x4]) (st' := [.long q3, .long q1, .long x4]) X hw hl mwX1_justSoMany wd_774 wd_773 (c_X1_justSoMany hf e4) rfl ⟨Nat.le_of_ble_eq_true rfl, Nat.le_of_ble_eq_true rfl⟩ ⟨Nat.le_refl _, Nat.le_refl _⟩ rfl rfl (Nat.le_of_ble_eq_true rfl) d_X1_slipsTo_30 (fun H locs hw => ?_)
      refine lv_lmul hx hb d_X1_slipsTo_33 ?_
      refine lv_ladd hx hb d_X1_slipsTo_34 ?_
      refine lv_lstore (lv' := [(4, .long (x4 + (q1 * q3))), (6, .int x6), (0, .int y0), (1, .int y1), (2, .int y2), (3, .int y3)]) hx hb d_X1_slipsTo_35 hl (Nat.le_of_ble_eq_true rfl) rfl (fun ls hl => ?_)
      refine lv_iinc (v := (x6 + (1 : Int32))) (k := 1) (lv' := [(6, .int (x6 + (1 : Int32))), (4, .long (x4 + (q1 * q3))), (0, .int y0), (1, .int y1), (2, .int y2), (3, .int y3)]) hx hb d_X1_slipsTo_37 hl rfl (by rfl) (Nat.le_of_ble_eq_true rfl) rfl (fun ls hl => ?_)
      refine lv_goto (tgt := 6) hx hb d_X1_slipsTo_40 (by decide) ?_
      obtain rfl := Option.some.inj h
      dsimp only [Sum.elim_inl] at hk
      exact hk _ _ _ hw (lv_sub hl [1, 0, 2, 3, 4, 5] rfl)
  intro H locs ls hw hl
  have hl : lv_has ls 7 [(0, .int a0), (1, .int a1), (2, .int a2), (3, .int a3)] := hl
  unfold f_X1_slipsTo at h
  refine lv_lconst (v := (0 : Int64)) hx hb d_X1_slipsTo_0 (by decide) ?_
  refine lv_lstore (lv' := [(4, .long (0 : Int64)), (0, .int a0), (1, .int a1), (2, .int a2), (3, .int a3)]) hx hb d_X1_slipsTo_1 hl (Nat.le_of_ble_eq_true rfl) rfl (fun ls hl => ?_)
  refine lv_iconst (v := (0 : Int32)) hx hb d_X1_slipsTo_3 (by decide) ?_
  refine lv_istore (lv' := [(6, .int (0 : Int32)), (4, .long (0 : Int64)), (0, .int a0), (1, .int a1), (2, .int a2), (3, .int a3)]) hx hb d_X1_slipsTo_4 hl (Nat.le_of_ble_eq_true rfl) rfl (fun ls hl => ?_)
  obtain ⟨z5, e6, h⟩ := bd_some h
  refine iter_w (Wh := fun z : Int64 × Int32 => Wat p l e (rmk 3 68) s m args below meth c Q G 7 6 [] [(4, .long z.1), (6, .int z.2), (0, .int a0), (1, .int a1), (2, .int a2), (3, .int a3)] χ σ) (K := fun z : Int64 => Wat p l e (rmk 3 68) s m args below meth c Q G 7 43 [] [(4, .long z)] χ σ) (fun z o h1 h2 => b6 a0 a1 a2 a3 z.1 z.2 o h1 h2) FU _ _ e6 ?_ _ _ _ hw (lv_sub hl [1, 0, 2, 3, 4, 5] rfl)
  intro H locs ls hw hl
  refine lv_lload hx hb d_X1_slipsTo_43 (lv_at hl 0 rfl) ?_
  obtain rfl := Option.some.inj h
  subst hQ
  exact r_lret X hr hlk hw d_X1_slipsTo_45
abbrev yX2_weight : MethodName := ⟨"OysterBeds$Council", "weight", "(LOysterBeds$Bed;I)I"⟩
theorem mwX2_weight : MW yX2_weight prog_4_method_2_code 4 (some .int) 2 := ⟨wd_627, wd_21, by decide +kernel⟩
theorem d_X2_weight_0 : decode prog_4_method_2_code 0 = .ok (.iconst 0, 1) := by decide +kernel
theorem d_X2_weight_1 : decode prog_4_method_2_code 1 = .ok (.istore_n 2, 1) := by decide +kernel
theorem d_X2_weight_2 : decode prog_4_method_2_code 2 = .ok (.iconst 0, 1) := by decide +kernel
theorem d_X2_weight_3 : decode prog_4_method_2_code 3 = .ok (.istore_n 3, 1) := by decide +kernel
theorem d_X2_weight_4 : decode prog_4_method_2_code 4 = .ok (.iload_n 3, 1) := by decide +kernel
theorem d_X2_weight_5 : decode prog_4_method_2_code 5 = .ok (.aload_n 0, 1) := by decide +kernel
theorem d_X2_weight_6 : decode prog_4_method_2_code 6 = .ok (.getfield 7, 3) := by decide +kernel
theorem d_X2_weight_9 : decode prog_4_method_2_code 9 = .ok (.if_icmp .ge 30, 3) := by decide +kernel
theorem d_X2_weight_12 : decode prog_4_method_2_code 12 = .ok (.iload_n 1, 1) := by decide +kernel
theorem d_X2_weight_13 : decode prog_4_method_2_code 13 = .ok (.iload_n 3, 1) := by decide +kernel
theorem d_X2_weight_14 : decode prog_4_method_2_code 14 = .ok (.ishr, 1) := by decide +kernel
theorem d_X2_weight_15 : decode prog_4_method_2_code 15 = .ok (.iconst 1, 1) := by decide +kernel
theorem d_X2_weight_16 : decode prog_4_method_2_code 16 = .ok (.iand, 1) := by decide +kernel
theorem d_X2_weight_17 : decode prog_4_method_2_code 17 = .ok (.iconst 1, 1) := by decide +kernel
theorem d_X2_weight_18 : decode prog_4_method_2_code 18 = .ok (.if_icmp .ne 15, 3) := by decide +kernel
theorem d_X2_weight_21 : decode prog_4_method_2_code 21 = .ok (.iload_n 2, 1) := by decide +kernel
theorem d_X2_weight_22 : decode prog_4_method_2_code 22 = .ok (.bipush 10, 2) := by decide +kernel
theorem d_X2_weight_24 : decode prog_4_method_2_code 24 = .ok (.aload_n 0, 1) := by decide +kernel
theorem d_X2_weight_25 : decode prog_4_method_2_code 25 = .ok (.getfield 13, 3) := by decide +kernel
theorem d_X2_weight_28 : decode prog_4_method_2_code 28 = .ok (.iload_n 3, 1) := by decide +kernel
theorem d_X2_weight_29 : decode prog_4_method_2_code 29 = .ok (.iaload, 1) := by decide +kernel
theorem d_X2_weight_30 : decode prog_4_method_2_code 30 = .ok (.isub, 1) := by decide +kernel
theorem d_X2_weight_31 : decode prog_4_method_2_code 31 = .ok (.iadd, 1) := by decide +kernel
theorem d_X2_weight_32 : decode prog_4_method_2_code 32 = .ok (.istore_n 2, 1) := by decide +kernel
theorem d_X2_weight_33 : decode prog_4_method_2_code 33 = .ok (.iinc 3 1, 3) := by decide +kernel
theorem d_X2_weight_36 : decode prog_4_method_2_code 36 = .ok (.goto (-32), 3) := by decide +kernel
theorem d_X2_weight_39 : decode prog_4_method_2_code 39 = .ok (.iload_n 2, 1) := by decide +kernel
theorem d_X2_weight_40 : decode prog_4_method_2_code 40 = .ok (.ireturn, 1) := by decide +kernel
def f_X2_weight_j33_4 (b0 : Nat) (χ : St) (x1 : Int32) (x2 : Int32) (x3 : Int32) : Option ((Int32 × Int32) ⊕ (Int32)) := some (.inl (x2, (x3 + (1 : Int32))))
def f_X2_weight_s4 (b0 : Nat) (χ : St) (y1 : Int32) (x2 : Int32) (x3 : Int32) : Option ((Int32 × Int32) ⊕ (Int32)) := (if (cF χ b0 5) ≤ x3 then some (.inr x2) else (if ((y1 >>> (x3 &&& 31)) &&& (1 : Int32)) = (1 : Int32) then gd (inb x3 8) (f_X2_weight_j33_4 b0 χ y1 (x2 + ((10 : Int32) - (cA χ (b0 + 2) x3.toNatClampNeg))) x3) else f_X2_weight_j33_4 b0 χ y1 x2 x3))
def f_X2_weight (χ : St) (b0 : Nat) (a1 : Int32) : Option (Int32) := (iter (fun z => f_X2_weight_s4 b0 χ a1 z.1 z.2) FU ((0 : Int32), (0 : Int32))).bind (fun z2 => some z2)
theorem c_X2_weight {l : Launch} {G : gT} {χ σ : St} {b0 : Nat} {a1 : Int32} (hf : FW G) (hb_b0 : isBed b0 = true) {q : Int32} (h : f_X2_weight χ b0 a1 = some q) : Ct l G yX2_weight prog_4_method_2_code 4 (some .int) 0 0 [.ref (ga G b0), .int a1] χ σ (some (.int q)) χ σ := by
  obtain ⟨ob0_b0, ob1_b0, ob2_b0, ob3_b0, ob4_b0, ob5_b0, lb_b0, -, -⟩ := bed_at hf hb_b0
  have lb0_b0 : b0 < 300 := by omega
  have lb1_b0 : b0 + 1 < 300 := by omega
  have lb2_b0 : b0 + 2 < 300 := by omega
  have lb3_b0 : b0 + 3 < 300 := by omega
  have lb4_b0 : b0 + 4 < 300 := by omega
  have lb5_b0 : b0 + 5 < 300 := by omega
  refine Ct.of (by decide) (Nat.le_of_ble_eq_true rfl) ?_
  intro p e s m args below meth c Q X hr hlk hQ
  have hx := X.1
  have hb := X.2.1
  have j33_4 : ∀ (x1 : Int32) (x2 : Int32) (x3 : Int32) (o : (Int32 × Int32) ⊕ (Int32)), f_X2_weight_j33_4 b0 χ x1 x2 x3 = some o → Sum.elim (fun z : Int32 × Int32 => Wat p l e (rmk 0 0) s m args below meth c Q G 4 4 [] [(2, .int z.1), (3, .int z.2), (0, .ref (ga G b0)), (1, .int x1)] χ σ) (fun z : Int32 => Wat p l e (rmk 0 0) s m args below meth c Q G 4 39 [] [(2, .int z)] χ σ) o → Wat p l e (rmk 0 0) s m args below meth c Q G 4 33 [] [(0, .ref (ga G b0)), (1, .int x1), (2, .int x2), (3, .int x3)] χ σ := by
    intro x1 x2 x3 o h hk H locs ls hw hl
    unfold f_X2_weight_j33_4 at h
    refine lv_iinc (v := (x3 + (1 : Int32))) (k := 3) (lv' := [(3, .int (x3 + (1 : Int32))), (0, .ref (ga G b0)), (1, .int x1), (2, .int x2)]) hx hb d_X2_weight_33 hl rfl (by rfl) (Nat.le_of_ble_eq_true rfl) rfl (fun ls hl => ?_)
    refine lv_goto (tgt := 4) hx hb d_X2_weight_36 (by decide) ?_
    obtain rfl := Option.some.inj h
    dsimp only [Sum.elim_inl] at hk
    exact hk _ _ _ hw (lv_sub hl [3, 0, 1, 2] rfl)
  have b4 : ∀ (y1 : Int32) (x2 : Int32) (x3 : Int32) (o : (Int32 × Int32) ⊕ (Int32)), f_X2_weight_s4 b0 χ y1 x2 x3 = some o → Sum.elim (fun z : Int32 × Int32 => Wat p l e (rmk 0 0) s m args below meth c Q G 4 4 [] [(2, .int z.1), (3, .int z.2), (0, .ref (ga G b0)), (1, .int y1)] χ σ) (fun z : Int32 => Wat p l e (rmk 0 0) s m args below meth c Q G 4 39 [] [(2, .int z)] χ σ) o → Wat p l e (rmk 0 0) s m args below meth c Q G 4 4 [] [(2, .int x2), (3, .int x3), (0, .ref (ga G b0)), (1, .int y1)] χ σ := by
    intro y1 x2 x3 o h hk H locs ls hw hl
    unfold f_X2_weight_s4 at h
    refine lv_iload_n hx hb d_X2_weight_4 rfl (lv_at hl 1 rfl) ?_
    refine lv_aload_n hx hb d_X2_weight_5 rfl (lv_at hl 2 rfl) ?_
    refine r_getiN (j := 5) X hw ct0 ob0_b0 lb0_b0 rfl (Nat.le_of_ble_eq_true rfl) nw_22 d_X2_weight_6 ?_
    refine lv_icmp_ge (tgt := 39) hx hb d_X2_weight_9 (by decide) (fun hc => ?_) (fun hc => ?_)
    · have h := ite_t h hc
      obtain rfl := Option.some.inj h
      dsimp only [Sum.elim_inr] at hk
      exact hk _ _ _ hw (lv_sub hl [0] rfl)
    · have h := ite_f h hc
      refine lv_iload_n hx hb d_X2_weight_12 rfl (lv_at hl 3 rfl) ?_
      refine lv_iload_n hx hb d_X2_weight_13 rfl (lv_at hl 1 rfl) ?_
      refine lv_ishr hx hb d_X2_weight_14 ?_
      refine lv_iconst (v := (1 : Int32)) hx hb d_X2_weight_15 (by decide) ?_
      refine lv_iand hx hb d_X2_weight_16 ?_
      refine lv_iconst (v := (1 : Int32)) hx hb d_X2_weight_17 (by decide) ?_
      refine lv_icmp_ne (tgt := 33) hx hb d_X2_weight_18 (by decide) (fun hc => ?_) (fun hc => ?_)
      · have h := ite_f h hc
        exact j33_4 y1 x2 x3 o h hk _ _ _ hw (lv_sub hl [2, 3, 0, 1] rfl)
      · have h := ite_t h hc
        refine lv_iload_n hx hb d_X2_weight_21 rfl (lv_at hl 0 rfl) ?_
        refine lv_bipush (v := (10 : Int32)) hx hb d_X2_weight_22 (by decide) ?_
        refine lv_aload_n hx hb d_X2_weight_24 rfl (lv_at hl 2 rfl) ?_
        refine r_getrN (j := 1) X hw ct0 ob0_b0 rfl (Nat.le_of_ble_eq_true rfl) (q := (b0 + 2)) (rt_bed hb_b0) nw_10 d_X2_weight_25 ?_
        refine lv_iload_n hx hb d_X2_weight_28 rfl (lv_at hl 1 rfl) ?_
        obtain ⟨hi1, h⟩ := gd_some h
        refine r_iald X hw ob2_b0 lb2_b0 hi1 d_X2_weight_29 ?_
        refine lv_isub hx hb d_X2_weight_30 ?_
        refine lv_iadd hx hb d_X2_weight_31 ?_
        refine lv_istore_n (lv' := [(2, .int (x2 + ((10 : Int32) - (cA χ (b0 + 2) x3.toNatClampNeg)))), (3, .int x3), (0, .ref (ga G b0)), (1, .int y1)]) hx hb d_X2_weight_32 rfl hl (Nat.le_of_ble_eq_true rfl) rfl (fun ls hl => ?_)
        exact j33_4 y1 (x2 + ((10 : Int32) - (cA χ (b0 + 2) x3.toNatClampNeg))) x3 o h hk _ _ _ hw (lv_sub hl [2, 3, 0, 1] rfl)
  intro H locs ls hw hl
  have hl : lv_has ls 4 [(0, .ref (ga G b0)), (1, .int a1)] := hl
  unfold f_X2_weight at h
  refine lv_iconst (v := (0 : Int32)) hx hb d_X2_weight_0 (by decide) ?_
  refine lv_istore_n (lv' := [(2, .int (0 : Int32)), (0, .ref (ga G b0)), (1, .int a1)]) hx hb d_X2_weight_1 rfl hl (Nat.le_of_ble_eq_true rfl) rfl (fun ls hl => ?_)
  refine lv_iconst (v := (0 : Int32)) hx hb d_X2_weight_2 (by decide) ?_
  refine lv_istore_n (lv' := [(3, .int (0 : Int32)), (2, .int (0 : Int32)), (0, .ref (ga G b0)), (1, .int a1)]) hx hb d_X2_weight_3 rfl hl (Nat.le_of_ble_eq_true rfl) rfl (fun ls hl => ?_)
  obtain ⟨z2, e3, h⟩ := bd_some h
  refine iter_w (Wh := fun z : Int32 × Int32 => Wat p l e (rmk 0 0) s m args below meth c Q G 4 4 [] [(2, .int z.1), (3, .int z.2), (0, .ref (ga G b0)), (1, .int a1)] χ σ) (K := fun z : Int32 => Wat p l e (rmk 0 0) s m args below meth c Q G 4 39 [] [(2, .int z)] χ σ) (fun z o h1 h2 => b4 a1 z.1 z.2 o h1 h2) FU _ _ e3 ?_ _ _ _ hw (lv_sub hl [1, 0, 2, 3] rfl)
  intro H locs ls hw hl
  refine lv_iload_n hx hb d_X2_weight_39 rfl (lv_at hl 0 rfl) ?_
  obtain rfl := Option.some.inj h
  subst hQ
  exact r_iret X hr hlk hw d_X2_weight_40
abbrev yX2_apart : MethodName := ⟨"OysterBeds$Council", "apart", "(LOysterBeds$Bed;I)I"⟩
theorem mwX2_apart : MW yX2_apart prog_4_method_3_code 3 (some .int) 2 := ⟨wd_658, wd_21, by decide +kernel⟩
theorem d_X2_apart_0 : decode prog_4_method_3_code 0 = .ok (.iconst 2, 1) := by decide +kernel
theorem d_X2_apart_1 : decode prog_4_method_3_code 1 = .ok (.aload_n 0, 1) := by decide +kernel
theorem d_X2_apart_2 : decode prog_4_method_3_code 2 = .ok (.iload_n 1, 1) := by decide +kernel
theorem d_X2_apart_3 : decode prog_4_method_3_code 3 = .ok (.invokestatic 17, 3) := by decide +kernel
theorem d_X2_apart_6 : decode prog_4_method_3_code 6 = .ok (.imul, 1) := by decide +kernel
theorem d_X2_apart_7 : decode prog_4_method_3_code 7 = .ok (.aload_n 0, 1) := by decide +kernel
theorem d_X2_apart_8 : decode prog_4_method_3_code 8 = .ok (.aload_n 0, 1) := by decide +kernel
theorem d_X2_apart_9 : decode prog_4_method_3_code 9 = .ok (.invokevirtual 23, 3) := by decide +kernel
theorem d_X2_apart_12 : decode prog_4_method_3_code 12 = .ok (.invokestatic 17, 3) := by decide +kernel
theorem d_X2_apart_15 : decode prog_4_method_3_code 15 = .ok (.isub, 1) := by decide +kernel
theorem d_X2_apart_16 : decode prog_4_method_3_code 16 = .ok (.istore_n 2, 1) := by decide +kernel
theorem d_X2_apart_17 : decode prog_4_method_3_code 17 = .ok (.iload_n 2, 1) := by decide +kernel
theorem d_X2_apart_18 : decode prog_4_method_3_code 18 = .ok (.invokestatic 27, 3) := by decide +kernel
theorem d_X2_apart_21 : decode prog_4_method_3_code 21 = .ok (.ireturn, 1) := by decide +kernel
def f_X2_apart (χ : St) (b0 : Nat) (a1 : Int32) : Option (Int32) := (f_X2_weight χ b0 a1).bind (fun q1 => (f_X0_all χ b0).bind (fun q3 => (f_X2_weight χ b0 q3).bind (fun q5 => some (if 0 ≤ (((2 : Int32) * q1) - q5) then (((2 : Int32) * q1) - q5) else 0 - (((2 : Int32) * q1) - q5)))))
theorem c_X2_apart {l : Launch} {G : gT} {χ σ : St} {b0 : Nat} {a1 : Int32} (hf : FW G) (hb_b0 : isBed b0 = true) {q : Int32} (h : f_X2_apart χ b0 a1 = some q) : Ct l G yX2_apart prog_4_method_3_code 3 (some .int) 1 23 [.ref (ga G b0), .int a1] χ σ (some (.int q)) χ σ := by
  obtain ⟨ob0_b0, ob1_b0, ob2_b0, ob3_b0, ob4_b0, ob5_b0, lb_b0, -, -⟩ := bed_at hf hb_b0
  have lb0_b0 : b0 < 300 := by omega
  have lb1_b0 : b0 + 1 < 300 := by omega
  have lb2_b0 : b0 + 2 < 300 := by omega
  have lb3_b0 : b0 + 3 < 300 := by omega
  have lb4_b0 : b0 + 4 < 300 := by omega
  have lb5_b0 : b0 + 5 < 300 := by omega
  refine Ct.of (by decide) (Nat.le_of_ble_eq_true rfl) ?_
  intro p e s m args below meth c Q X hr hlk hQ
  have hx := X.1
  have hb := X.2.1
  intro H locs ls hw hl
  have hl : lv_has ls 3 [(0, .ref (ga G b0)), (1, .int a1)] := hl
  unfold f_X2_apart at h
  refine lv_iconst (v := (2 : Int32)) hx hb d_X2_apart_0 (by decide) ?_
  refine lv_aload_n hx hb d_X2_apart_1 rfl (lv_at hl 0 rfl) ?_
  refine lv_iload_n hx hb d_X2_apart_2 rfl (lv_at hl 1 rfl) ?_
  obtain ⟨q1, e2, h⟩ := bd_some h
  refine r_callS (As := [.ref (ga G b0), .int a1]) (rest := [.int (2 : Int32)]) (st' := [.int q1, .int (2 : Int32)]) X hw hl mwX2_weight wd_626 wd_625 (c_X2_weight hf hb_b0 e2) rfl ⟨Nat.le_of_ble_eq_true rfl, Nat.le_of_ble_eq_true rfl⟩ ⟨Nat.le_refl _, Nat.le_refl _⟩ rfl rfl (Nat.le_of_ble_eq_true rfl) d_X2_apart_3 (fun H locs hw => ?_)
  refine lv_imul hx hb d_X2_apart_6 ?_
  refine lv_aload_n hx hb d_X2_apart_7 rfl (lv_at hl 0 rfl) ?_
  refine lv_aload_n hx hb d_X2_apart_8 rfl (lv_at hl 0 rfl) ?_
  obtain ⟨q3, e4, h⟩ := bd_some h
  refine r_callV (As := []) (rest := [.ref (ga G b0), .int ((2 : Int32) * q1)]) (st' := [.int q3, .ref (ga G b0), .int ((2 : Int32) * q1)]) X hw hl mwX0_all wd_570 wd_571 wd_628 (c_X0_all hf hb_b0 e4) (r_recv X hw ct0 ob0_b0) rfl ⟨Nat.le_of_ble_eq_true rfl, Nat.le_of_ble_eq_true rfl⟩ ⟨Nat.le_refl _, Nat.le_refl _⟩ rfl rfl (Nat.le_of_ble_eq_true rfl) d_X2_apart_9 (fun H locs hw => ?_)
  obtain ⟨q5, e6, h⟩ := bd_some h
  refine r_callS (As := [.ref (ga G b0), .int q3]) (rest := [.int ((2 : Int32) * q1)]) (st' := [.int q5, .int ((2 : Int32) * q1)]) X hw hl mwX2_weight wd_626 wd_625 (c_X2_weight hf hb_b0 e6) rfl ⟨Nat.le_of_ble_eq_true rfl, Nat.le_of_ble_eq_true rfl⟩ ⟨Nat.le_refl _, Nat.le_refl _⟩ rfl rfl (Nat.le_of_ble_eq_true rfl) d_X2_apart_12 (fun H locs hw => ?_)
  refine lv_isub hx hb d_X2_apart_15 ?_
  refine lv_istore_n (lv' := [(2, .int (((2 : Int32) * q1) - q5)), (0, .ref (ga G b0)), (1, .int a1)]) hx hb d_X2_apart_16 rfl hl (Nat.le_of_ble_eq_true rfl) rfl (fun ls hl => ?_)
  refine lv_iload_n hx hb d_X2_apart_17 rfl (lv_at hl 0 rfl) ?_
  refine r_abs X hl wd_659 ⟨Nat.le_of_ble_eq_true rfl, Nat.le_of_ble_eq_true rfl⟩ ⟨Nat.le_refl _, Nat.le_refl _⟩ d_X2_apart_18 ?_
  obtain rfl := Option.some.inj h
  subst hQ
  exact r_iret X hr hlk hw d_X2_apart_21
abbrev yX2_decides : MethodName := ⟨"OysterBeds$Council", "decides", "(LOysterBeds$Bed;I)Z"⟩
theorem mwX2_decides : MW yX2_decides prog_4_method_4_code 2 (some .boolean) 2 := ⟨wd_624, wd_21, by decide +kernel⟩
theorem d_X2_decides_0 : decode prog_4_method_4_code 0 = .ok (.iconst 2, 1) := by decide +kernel
theorem d_X2_decides_1 : decode prog_4_method_4_code 1 = .ok (.aload_n 0, 1) := by decide +kernel
theorem d_X2_decides_2 : decode prog_4_method_4_code 2 = .ok (.iload_n 1, 1) := by decide +kernel
theorem d_X2_decides_3 : decode prog_4_method_4_code 3 = .ok (.invokestatic 17, 3) := by decide +kernel
theorem d_X2_decides_6 : decode prog_4_method_4_code 6 = .ok (.imul, 1) := by decide +kernel
theorem d_X2_decides_7 : decode prog_4_method_4_code 7 = .ok (.aload_n 0, 1) := by decide +kernel
theorem d_X2_decides_8 : decode prog_4_method_4_code 8 = .ok (.aload_n 0, 1) := by decide +kernel
theorem d_X2_decides_9 : decode prog_4_method_4_code 9 = .ok (.invokevirtual 23, 3) := by decide +kernel
theorem d_X2_decides_12 : decode prog_4_method_4_code 12 = .ok (.invokestatic 17, 3) := by decide +kernel
theorem d_X2_decides_15 : decode prog_4_method_4_code 15 = .ok (.if_icmp .le 7, 3) := by decide +kernel
theorem d_X2_decides_18 : decode prog_4_method_4_code 18 = .ok (.iconst 1, 1) := by decide +kernel
theorem d_X2_decides_19 : decode prog_4_method_4_code 19 = .ok (.goto 4, 3) := by decide +kernel
theorem d_X2_decides_22 : decode prog_4_method_4_code 22 = .ok (.iconst 0, 1) := by decide +kernel
theorem d_X2_decides_23 : decode prog_4_method_4_code 23 = .ok (.ireturn, 1) := by decide +kernel
def f_X2_decides (χ : St) (b0 : Nat) (a1 : Int32) : Option (Int32) := (f_X2_weight χ b0 a1).bind (fun q1 => (f_X0_all χ b0).bind (fun q3 => (f_X2_weight χ b0 q3).bind (fun q5 => some (if ((2 : Int32) * q1) ≤ q5 then (0 : Int32) else (1 : Int32)))))
theorem c_X2_decides {l : Launch} {G : gT} {χ σ : St} {b0 : Nat} {a1 : Int32} (hf : FW G) (hb_b0 : isBed b0 = true) {q : Int32} (h : f_X2_decides χ b0 a1 = some q) : Ct l G yX2_decides prog_4_method_4_code 2 (some .boolean) 1 23 [.ref (ga G b0), .int a1] χ σ (some (.int q)) χ σ := by
  obtain ⟨ob0_b0, ob1_b0, ob2_b0, ob3_b0, ob4_b0, ob5_b0, lb_b0, -, -⟩ := bed_at hf hb_b0
  have lb0_b0 : b0 < 300 := by omega
  have lb1_b0 : b0 + 1 < 300 := by omega
  have lb2_b0 : b0 + 2 < 300 := by omega
  have lb3_b0 : b0 + 3 < 300 := by omega
  have lb4_b0 : b0 + 4 < 300 := by omega
  have lb5_b0 : b0 + 5 < 300 := by omega
  refine Ct.of (by decide) (Nat.le_of_ble_eq_true rfl) ?_
  intro p e s m args below meth c Q X hr hlk hQ
  have hx := X.1
  have hb := X.2.1
  intro H locs ls hw hl
  have hl : lv_has ls 2 [(0, .ref (ga G b0)), (1, .int a1)] := hl
  unfold f_X2_decides at h
  refine lv_iconst (v := (2 : Int32)) hx hb d_X2_decides_0 (by decide) ?_
  refine lv_aload_n hx hb d_X2_decides_1 rfl (lv_at hl 0 rfl) ?_
  refine lv_iload_n hx hb d_X2_decides_2 rfl (lv_at hl 1 rfl) ?_
  obtain ⟨q1, e2, h⟩ := bd_some h
  refine r_callS (As := [.ref (ga G b0), .int a1]) (rest := [.int (2 : Int32)]) (st' := [.int q1, .int (2 : Int32)]) X hw hl mwX2_weight wd_626 wd_625 (c_X2_weight hf hb_b0 e2) rfl ⟨Nat.le_of_ble_eq_true rfl, Nat.le_of_ble_eq_true rfl⟩ ⟨Nat.le_refl _, Nat.le_refl _⟩ rfl rfl (Nat.le_of_ble_eq_true rfl) d_X2_decides_3 (fun H locs hw => ?_)
  refine lv_imul hx hb d_X2_decides_6 ?_
  refine lv_aload_n hx hb d_X2_decides_7 rfl (lv_at hl 0 rfl) ?_
  refine lv_aload_n hx hb d_X2_decides_8 rfl (lv_at hl 0 rfl) ?_
  obtain ⟨q3, e4, h⟩ := bd_some h
  refine r_callV (As := []) (rest := [.ref (ga G b0), .int ((2 : Int32) * q1)]) (st' := [.int q3, .ref (ga G b0), .int ((2 : Int32) * q1)]) X hw hl mwX0_all wd_570 wd_571 wd_628 (c_X0_all hf hb_b0 e4) (r_recv X hw ct0 ob0_b0) rfl ⟨Nat.le_of_ble_eq_true rfl, Nat.le_of_ble_eq_true rfl⟩ ⟨Nat.le_refl _, Nat.le_refl _⟩ rfl rfl (Nat.le_of_ble_eq_true rfl) d_X2_decides_9 (fun H locs hw => ?_)
  obtain ⟨q5, e6, h⟩ := bd_some h
  refine r_callS (As := [.ref (ga G b0), .int q3]) (rest := [.int ((2 : Int32) * q1)]) (st' := [.int q5, .int ((2 : Int32) * q1)]) X hw hl mwX2_weight wd_626 wd_625 (c_X2_weight hf hb_b0 e6) rfl ⟨Nat.le_of_ble_eq_true rfl, Nat.le_of_ble_eq_true rfl⟩ ⟨Nat.le_refl _, Nat.le_refl _⟩ rfl rfl (Nat.le_of_ble_eq_true rfl) d_X2_decides_12 (fun H locs hw => ?_)
  refine lv_icmp_le (tgt := 22) hx hb d_X2_decides_15 (by decide) (fun hc => ?_) (fun hc => ?_)
  · simp only [if_pos hc] at h
    refine lv_iconst (v := (0 : Int32)) hx hb d_X2_decides_22 (by decide) ?_
    obtain rfl := Option.some.inj h
    subst hQ
    exact r_zret X hr nbz0 hlk hw d_X2_decides_23
  · simp only [if_neg hc] at h
    refine lv_iconst (v := (1 : Int32)) hx hb d_X2_decides_18 (by decide) ?_
    refine lv_goto (tgt := 23) hx hb d_X2_decides_19 (by decide) ?_
    obtain rfl := Option.some.inj h
    subst hQ
    exact r_zret X hr nbz1 hlk hw d_X2_decides_23
abbrev yX2_turnsBy : MethodName := ⟨"OysterBeds$Council", "turnsBy", "(LOysterBeds$Bed;II)Z"⟩
theorem mwX2_turnsBy : MW yX2_turnsBy prog_4_method_5_code 4 (some .boolean) 3 := ⟨wd_621, wd_21, by decide +kernel⟩
theorem d_X2_turnsBy_0 : decode prog_4_method_5_code 0 = .ok (.iconst 1, 1) := by decide +kernel
theorem d_X2_turnsBy_1 : decode prog_4_method_5_code 1 = .ok (.iload_n 2, 1) := by decide +kernel
theorem d_X2_turnsBy_2 : decode prog_4_method_5_code 2 = .ok (.ishl, 1) := by decide +kernel
theorem d_X2_turnsBy_3 : decode prog_4_method_5_code 3 = .ok (.istore_n 3, 1) := by decide +kernel
theorem d_X2_turnsBy_4 : decode prog_4_method_5_code 4 = .ok (.iload_n 1, 1) := by decide +kernel
theorem d_X2_turnsBy_5 : decode prog_4_method_5_code 5 = .ok (.iload_n 3, 1) := by decide +kernel
theorem d_X2_turnsBy_6 : decode prog_4_method_5_code 6 = .ok (.iand, 1) := by decide +kernel
theorem d_X2_turnsBy_7 : decode prog_4_method_5_code 7 = .ok (.ifCond .ne 25, 3) := by decide +kernel
theorem d_X2_turnsBy_10 : decode prog_4_method_5_code 10 = .ok (.aload_n 0, 1) := by decide +kernel
theorem d_X2_turnsBy_11 : decode prog_4_method_5_code 11 = .ok (.iload_n 1, 1) := by decide +kernel
theorem d_X2_turnsBy_12 : decode prog_4_method_5_code 12 = .ok (.invokestatic 33, 3) := by decide +kernel
theorem d_X2_turnsBy_15 : decode prog_4_method_5_code 15 = .ok (.ifCond .ne 17, 3) := by decide +kernel
theorem d_X2_turnsBy_18 : decode prog_4_method_5_code 18 = .ok (.aload_n 0, 1) := by decide +kernel
theorem d_X2_turnsBy_19 : decode prog_4_method_5_code 19 = .ok (.iload_n 1, 1) := by decide +kernel
theorem d_X2_turnsBy_20 : decode prog_4_method_5_code 20 = .ok (.iload_n 3, 1) := by decide +kernel
theorem d_X2_turnsBy_21 : decode prog_4_method_5_code 21 = .ok (.ior, 1) := by decide +kernel
theorem d_X2_turnsBy_22 : decode prog_4_method_5_code 22 = .ok (.invokestatic 33, 3) := by decide +kernel
theorem d_X2_turnsBy_25 : decode prog_4_method_5_code 25 = .ok (.ifCond .eq 7, 3) := by decide +kernel
theorem d_X2_turnsBy_28 : decode prog_4_method_5_code 28 = .ok (.iconst 1, 1) := by decide +kernel
theorem d_X2_turnsBy_29 : decode prog_4_method_5_code 29 = .ok (.goto 4, 3) := by decide +kernel
theorem d_X2_turnsBy_32 : decode prog_4_method_5_code 32 = .ok (.iconst 0, 1) := by decide +kernel
theorem d_X2_turnsBy_33 : decode prog_4_method_5_code 33 = .ok (.ireturn, 1) := by decide +kernel
def f_X2_turnsBy (χ : St) (b0 : Nat) (a1 : Int32) (a2 : Int32) : Option (Int32) := (if (a1 &&& ((1 : Int32) <<< (a2 &&& 31))) = 0 then (f_X2_decides χ b0 a1).bind (fun q1 => (if q1 = 0 then (f_X2_decides χ b0 (a1 ||| ((1 : Int32) <<< (a2 &&& 31)))).bind (fun q3 => some (if q3 = 0 then (0 : Int32) else (1 : Int32))) else some (0 : Int32))) else some (0 : Int32))
theorem c_X2_turnsBy {l : Launch} {G : gT} {χ σ : St} {b0 : Nat} {a1 : Int32} {a2 : Int32} (hf : FW G) (hb_b0 : isBed b0 = true) {q : Int32} (h : f_X2_turnsBy χ b0 a1 a2 = some q) : Ct l G yX2_turnsBy prog_4_method_5_code 4 (some .boolean) 2 44 [.ref (ga G b0), .int a1, .int a2] χ σ (some (.int q)) χ σ := by
  obtain ⟨ob0_b0, ob1_b0, ob2_b0, ob3_b0, ob4_b0, ob5_b0, lb_b0, -, -⟩ := bed_at hf hb_b0
  have lb0_b0 : b0 < 300 := by omega
  have lb1_b0 : b0 + 1 < 300 := by omega
  have lb2_b0 : b0 + 2 < 300 := by omega
  have lb3_b0 : b0 + 3 < 300 := by omega
  have lb4_b0 : b0 + 4 < 300 := by omega
  have lb5_b0 : b0 + 5 < 300 := by omega
  refine Ct.of (by decide) (Nat.le_of_ble_eq_true rfl) ?_
  intro p e s m args below meth c Q X hr hlk hQ
  have hx := X.1
  have hb := X.2.1
  intro H locs ls hw hl
  have hl : lv_has ls 4 [(0, .ref (ga G b0)), (1, .int a1), (2, .int a2)] := hl
  unfold f_X2_turnsBy at h
  refine lv_iconst (v := (1 : Int32)) hx hb d_X2_turnsBy_0 (by decide) ?_
  refine lv_iload_n hx hb d_X2_turnsBy_1 rfl (lv_at hl 2 rfl) ?_
  refine lv_ishl hx hb d_X2_turnsBy_2 ?_
  refine lv_istore_n (lv' := [(3, .int ((1 : Int32) <<< (a2 &&& 31))), (0, .ref (ga G b0)), (1, .int a1), (2, .int a2)]) hx hb d_X2_turnsBy_3 rfl hl (Nat.le_of_ble_eq_true rfl) rfl (fun ls hl => ?_)
  refine lv_iload_n hx hb d_X2_turnsBy_4 rfl (lv_at hl 2 rfl) ?_
  refine lv_iload_n hx hb d_X2_turnsBy_5 rfl (lv_at hl 0 rfl) ?_
  refine lv_iand hx hb d_X2_turnsBy_6 ?_
  refine lv_if_ne (tgt := 32) hx hb d_X2_turnsBy_7 (by decide) (fun hc => ?_) (fun hc => ?_)
  · have h := ite_f h hc
    refine lv_iconst (v := (0 : Int32)) hx hb d_X2_turnsBy_32 (by decide) ?_
    obtain rfl := Option.some.inj h
    subst hQ
    exact r_zret X hr nbz0 hlk hw d_X2_turnsBy_33
  · have h := ite_t h hc
    refine lv_aload_n hx hb d_X2_turnsBy_10 rfl (lv_at hl 1 rfl) ?_
    refine lv_iload_n hx hb d_X2_turnsBy_11 rfl (lv_at hl 2 rfl) ?_
    obtain ⟨q1, e2, h⟩ := bd_some h
    refine r_callS (As := [.ref (ga G b0), .int a1]) (rest := []) (st' := [.int q1]) X hw hl mwX2_decides wd_623 wd_622 (c_X2_decides hf hb_b0 e2) rfl ⟨Nat.le_of_ble_eq_true rfl, Nat.le_of_ble_eq_true rfl⟩ ⟨Nat.le_refl _, Nat.le_refl _⟩ rfl rfl (Nat.le_of_ble_eq_true rfl) d_X2_turnsBy_12 (fun H locs hw => ?_)
    refine lv_if_ne (tgt := 32) hx hb d_X2_turnsBy_15 (by decide) (fun hc => ?_) (fun hc => ?_)
    · have h := ite_f h hc
      refine lv_iconst (v := (0 : Int32)) hx hb d_X2_turnsBy_32 (by decide) ?_
      obtain rfl := Option.some.inj h
      subst hQ
      exact r_zret X hr nbz0 hlk hw d_X2_turnsBy_33
    · have h := ite_t h hc
      refine lv_aload_n hx hb d_X2_turnsBy_18 rfl (lv_at hl 1 rfl) ?_
      refine lv_iload_n hx hb d_X2_turnsBy_19 rfl (lv_at hl 2 rfl) ?_
      refine lv_iload_n hx hb d_X2_turnsBy_20 rfl (lv_at hl 0 rfl) ?_
      refine lv_ior hx hb d_X2_turnsBy_21 ?_
      obtain ⟨q3, e4, h⟩ := bd_some h
      refine r_callS (As := [.ref (ga G b0), .int (a1 ||| ((1 : Int32) <<< (a2 &&& 31)))]) (rest := []) (st' := [.int q3]) X hw hl mwX2_decides wd_623 wd_622 (c_X2_decides hf hb_b0 e4) rfl ⟨Nat.le_of_ble_eq_true rfl, Nat.le_of_ble_eq_true rfl⟩ ⟨Nat.le_refl _, Nat.le_refl _⟩ rfl rfl (Nat.le_of_ble_eq_true rfl) d_X2_turnsBy_22 (fun H locs hw => ?_)
      refine lv_if_eq (tgt := 32) hx hb d_X2_turnsBy_25 (by decide) (fun hc => ?_) (fun hc => ?_)
      · simp only [if_pos hc] at h
        refine lv_iconst (v := (0 : Int32)) hx hb d_X2_turnsBy_32 (by decide) ?_
        obtain rfl := Option.some.inj h
        subst hQ
        exact r_zret X hr nbz0 hlk hw d_X2_turnsBy_33
      · simp only [if_neg hc] at h
        refine lv_iconst (v := (1 : Int32)) hx hb d_X2_turnsBy_28 (by decide) ?_
        refine lv_goto (tgt := 33) hx hb d_X2_turnsBy_29 (by decide) ?_
        obtain rfl := Option.some.inj h
        subst hQ
        exact r_zret X hr nbz1 hlk hw d_X2_turnsBy_33
abbrev yX3_canBeTaken : MethodName := ⟨"OysterBeds$Games", "canBeTaken", "(I)Z"⟩
theorem mwX3_canBeTaken : MW yX3_canBeTaken prog_5_method_4_code 2 (some .boolean) 1 := ⟨wd_806, wd_23, by decide +kernel⟩
theorem d_X3_canBeTaken_0 : decode prog_5_method_4_code 0 = .ok (.iconst 2, 1) := by decide +kernel
theorem d_X3_canBeTaken_1 : decode prog_5_method_4_code 1 = .ok (.istore_n 1, 1) := by decide +kernel
theorem d_X3_canBeTaken_2 : decode prog_5_method_4_code 2 = .ok (.iload_n 1, 1) := by decide +kernel
theorem d_X3_canBeTaken_3 : decode prog_5_method_4_code 3 = .ok (.iload_n 1, 1) := by decide +kernel
theorem d_X3_canBeTaken_4 : decode prog_5_method_4_code 4 = .ok (.imul, 1) := by decide +kernel
theorem d_X3_canBeTaken_5 : decode prog_5_method_4_code 5 = .ok (.iload_n 0, 1) := by decide +kernel
theorem d_X3_canBeTaken_6 : decode prog_5_method_4_code 6 = .ok (.if_icmp .gt 17, 3) := by decide +kernel
theorem d_X3_canBeTaken_9 : decode prog_5_method_4_code 9 = .ok (.iload_n 0, 1) := by decide +kernel
theorem d_X3_canBeTaken_10 : decode prog_5_method_4_code 10 = .ok (.iload_n 1, 1) := by decide +kernel
theorem d_X3_canBeTaken_11 : decode prog_5_method_4_code 11 = .ok (.irem, 1) := by decide +kernel
theorem d_X3_canBeTaken_12 : decode prog_5_method_4_code 12 = .ok (.ifCond .ne 5, 3) := by decide +kernel
theorem d_X3_canBeTaken_15 : decode prog_5_method_4_code 15 = .ok (.iconst 0, 1) := by decide +kernel
theorem d_X3_canBeTaken_16 : decode prog_5_method_4_code 16 = .ok (.ireturn, 1) := by decide +kernel
theorem d_X3_canBeTaken_17 : decode prog_5_method_4_code 17 = .ok (.iinc 1 1, 3) := by decide +kernel
theorem d_X3_canBeTaken_20 : decode prog_5_method_4_code 20 = .ok (.goto (-18), 3) := by decide +kernel
theorem d_X3_canBeTaken_23 : decode prog_5_method_4_code 23 = .ok (.iconst 1, 1) := by decide +kernel
theorem d_X3_canBeTaken_24 : decode prog_5_method_4_code 24 = .ok (.ireturn, 1) := by decide +kernel
def f_X3_canBeTaken_s2 (y0 : Int32) (x1 : Int32) : Option ((Int32) ⊕ ((Int32) ⊕ (Unit))) := (if y0 < (x1 * x1) then some (.inr (.inr ())) else gd (nz x1) ((if (y0 - y0 / x1 * x1) = 0 then some (.inr (.inl (0 : Int32))) else some (.inl (x1 + (1 : Int32))))))
def f_X3_canBeTaken (a0 : Int32) : Option (Int32) := (iter (fun z => f_X3_canBeTaken_s2 a0 z) FU (2 : Int32)).bind (Sum.elim (fun r => some r) (fun z2 => some (1 : Int32)))
theorem c_X3_canBeTaken {l : Launch} {G : gT} {χ σ : St} {a0 : Int32} (hf : FW G) {q : Int32} (h : f_X3_canBeTaken a0 = some q) : Ct l G yX3_canBeTaken prog_5_method_4_code 2 (some .boolean) 0 0 [.int a0] χ σ (some (.int q)) χ σ := by
  refine Ct.of (by decide) (Nat.le_of_ble_eq_true rfl) ?_
  intro p e s m args below meth c Q X hr hlk hQ
  have hx := X.1
  have hb := X.2.1
  have b2 : ∀ (y0 : Int32) (x1 : Int32) (o : (Int32) ⊕ ((Int32) ⊕ (Unit))), f_X3_canBeTaken_s2 y0 x1 = some o → Sum.elim (fun z : Int32 => Wat p l e (rmk 0 0) s m args below meth c Q G 2 2 [] [(1, .int z), (0, .int y0)] χ σ) (Sum.elim (fun r : Int32 => r = q) (fun z : Unit => Wat p l e (rmk 0 0) s m args below meth c Q G 2 23 [] [] χ σ)) o → Wat p l e (rmk 0 0) s m args below meth c Q G 2 2 [] [(1, .int x1), (0, .int y0)] χ σ := by
    intro y0 x1 o h hk H locs ls hw hl
    unfold f_X3_canBeTaken_s2 at h
    refine lv_iload_n hx hb d_X3_canBeTaken_2 rfl (lv_at hl 0 rfl) ?_
    refine lv_iload_n hx hb d_X3_canBeTaken_3 rfl (lv_at hl 0 rfl) ?_
    refine lv_imul hx hb d_X3_canBeTaken_4 ?_
    refine lv_iload_n hx hb d_X3_canBeTaken_5 rfl (lv_at hl 1 rfl) ?_
    refine lv_icmp_gt (tgt := 23) hx hb d_X3_canBeTaken_6 (by decide) (fun hc => ?_) (fun hc => ?_)
    · have h := ite_t h hc
      obtain rfl := Option.some.inj h
      dsimp only [Sum.elim_inr, Sum.elim_inl] at hk
      exact hk _ _ _ hw (lv_sub hl [] rfl)
    · have h := ite_f h hc
      refine lv_iload_n hx hb d_X3_canBeTaken_9 rfl (lv_at hl 1 rfl) ?_
      refine lv_iload_n hx hb d_X3_canBeTaken_10 rfl (lv_at hl 0 rfl) ?_
      obtain ⟨hz1, h⟩ := gd_some h
      refine lv_irem hx hb d_X3_canBeTaken_11 (nz_ne hz1) ?_
      refine lv_if_ne (tgt := 17) hx hb d_X3_canBeTaken_12 (by decide) (fun hc => ?_) (fun hc => ?_)
      · have h := ite_f h hc
        refine lv_iinc (v := (x1 + (1 : Int32))) (k := 0) (lv' := [(1, .int (x1 + (1 : Int32))), (0, .int y0)]) hx hb d_X3_canBeTaken_17 hl rfl (by rfl) (Nat.le_of_ble_eq_true rfl) rfl (fun ls hl => ?_)
        refine lv_goto (tgt := 2) hx hb d_X3_canBeTaken_20 (by decide) ?_
        obtain rfl := Option.some.inj h
        dsimp only [Sum.elim_inl] at hk
        exact hk _ _ _ hw (lv_sub hl [0, 1] rfl)
      · have h := ite_t h hc
        refine lv_iconst (v := (0 : Int32)) hx hb d_X3_canBeTaken_15 (by decide) ?_
        obtain rfl := Option.some.inj h
        cases (show _ = q from hk)
        subst hQ
        exact r_zret X hr nbz0 hlk hw d_X3_canBeTaken_16
  intro H locs ls hw hl
  have hl : lv_has ls 2 [(0, .int a0)] := hl
  unfold f_X3_canBeTaken at h
  refine lv_iconst (v := (2 : Int32)) hx hb d_X3_canBeTaken_0 (by decide) ?_
  refine lv_istore_n (lv' := [(1, .int (2 : Int32)), (0, .int a0)]) hx hb d_X3_canBeTaken_1 rfl hl (Nat.le_of_ble_eq_true rfl) rfl (fun ls hl => ?_)
  obtain ⟨z2, e3, h⟩ := bd_some h
  refine iter_w (Wh := fun z : Int32 => Wat p l e (rmk 0 0) s m args below meth c Q G 2 2 [] [(1, .int z), (0, .int a0)] χ σ) (K := Sum.elim (fun r : Int32 => r = q) (fun z : Unit => Wat p l e (rmk 0 0) s m args below meth c Q G 2 23 [] [] χ σ)) (fun z o h1 h2 => b2 a0 z o h1 h2) FU _ _ e3 ?_ _ _ _ hw (lv_sub hl [0, 1] rfl)
  rcases z2 with r | z2
  · exact Option.some.inj h
  · dsimp only [Sum.elim_inr] at h ⊢
    intro H locs ls hw hl
    refine lv_iconst (v := (1 : Int32)) hx hb d_X3_canBeTaken_23 (by decide) ?_
    obtain rfl := Option.some.inj h
    subst hQ
    exact r_zret X hr nbz1 hlk hw d_X3_canBeTaken_24
abbrev yX3_winningTake : MethodName := ⟨"OysterBeds$Games", "winningTake", "(JII)I"⟩
theorem mwX3_winningTake : MW yX3_winningTake prog_5_method_3_code 5 (some .int) 3 := ⟨wd_803, wd_23, by decide +kernel⟩
theorem d_X3_winningTake_0 : decode prog_5_method_3_code 0 = .ok (.iconst 1, 1) := by decide +kernel
theorem d_X3_winningTake_1 : decode prog_5_method_3_code 1 = .ok (.istore 4, 2) := by decide +kernel
theorem d_X3_winningTake_3 : decode prog_5_method_3_code 3 = .ok (.iload 4, 2) := by decide +kernel
theorem d_X3_winningTake_5 : decode prog_5_method_3_code 5 = .ok (.iload_n 3, 1) := by decide +kernel
theorem d_X3_winningTake_6 : decode prog_5_method_3_code 6 = .ok (.if_icmp .gt 39, 3) := by decide +kernel
theorem d_X3_winningTake_9 : decode prog_5_method_3_code 9 = .ok (.iload 4, 2) := by decide +kernel
theorem d_X3_winningTake_11 : decode prog_5_method_3_code 11 = .ok (.iload_n 2, 1) := by decide +kernel
theorem d_X3_winningTake_12 : decode prog_5_method_3_code 12 = .ok (.if_icmp .gt 33, 3) := by decide +kernel
theorem d_X3_winningTake_15 : decode prog_5_method_3_code 15 = .ok (.iload 4, 2) := by decide +kernel
theorem d_X3_winningTake_17 : decode prog_5_method_3_code 17 = .ok (.invokestatic 15, 3) := by decide +kernel
theorem d_X3_winningTake_20 : decode prog_5_method_3_code 20 = .ok (.ifCond .eq 19, 3) := by decide +kernel
theorem d_X3_winningTake_23 : decode prog_5_method_3_code 23 = .ok (.lload_n 0, 1) := by decide +kernel
theorem d_X3_winningTake_24 : decode prog_5_method_3_code 24 = .ok (.iload_n 2, 1) := by decide +kernel
theorem d_X3_winningTake_25 : decode prog_5_method_3_code 25 = .ok (.iload 4, 2) := by decide +kernel
theorem d_X3_winningTake_27 : decode prog_5_method_3_code 27 = .ok (.isub, 1) := by decide +kernel
theorem d_X3_winningTake_28 : decode prog_5_method_3_code 28 = .ok (.lshr, 1) := by decide +kernel
theorem d_X3_winningTake_29 : decode prog_5_method_3_code 29 = .ok (.lconst 1, 1) := by decide +kernel
theorem d_X3_winningTake_30 : decode prog_5_method_3_code 30 = .ok (.land, 1) := by decide +kernel
theorem d_X3_winningTake_31 : decode prog_5_method_3_code 31 = .ok (.lconst 0, 1) := by decide +kernel
theorem d_X3_winningTake_32 : decode prog_5_method_3_code 32 = .ok (.lcmp, 1) := by decide +kernel
theorem d_X3_winningTake_33 : decode prog_5_method_3_code 33 = .ok (.ifCond .ne 6, 3) := by decide +kernel
theorem d_X3_winningTake_36 : decode prog_5_method_3_code 36 = .ok (.iload 4, 2) := by decide +kernel
theorem d_X3_winningTake_38 : decode prog_5_method_3_code 38 = .ok (.ireturn, 1) := by decide +kernel
theorem d_X3_winningTake_39 : decode prog_5_method_3_code 39 = .ok (.iinc 4 1, 3) := by decide +kernel
theorem d_X3_winningTake_42 : decode prog_5_method_3_code 42 = .ok (.goto (-39), 3) := by decide +kernel
theorem d_X3_winningTake_45 : decode prog_5_method_3_code 45 = .ok (.iconst 0, 1) := by decide +kernel
theorem d_X3_winningTake_46 : decode prog_5_method_3_code 46 = .ok (.ireturn, 1) := by decide +kernel
def f_X3_winningTake_j39_3 (x0 : Int64) (x2 : Int32) (x3 : Int32) (x4 : Int32) : Option ((Int32) ⊕ ((Int32) ⊕ (Unit))) := some (.inl (x4 + (1 : Int32)))
def f_X3_winningTake_s3 (y0 : Int64) (y2 : Int32) (y3 : Int32) (x4 : Int32) : Option ((Int32) ⊕ ((Int32) ⊕ (Unit))) := (if y3 < x4 then some (.inr (.inr ())) else (if y2 < x4 then some (.inr (.inr ())) else (f_X3_canBeTaken x4).bind (fun q1 => (if q1 = 0 then f_X3_winningTake_j39_3 y0 y2 y3 x4 else (if (lg_cmp ((y0 >>> ((y2 - x4).toInt64 &&& 63)) &&& (1 : Int64)) (0 : Int64)) = 0 then some (.inr (.inl x4)) else f_X3_winningTake_j39_3 y0 y2 y3 x4)))))
def f_X3_winningTake (a0 : Int64) (a2 : Int32) (a3 : Int32) : Option (Int32) := (iter (fun z => f_X3_winningTake_s3 a0 a2 a3 z) FU (1 : Int32)).bind (Sum.elim (fun r => some r) (fun z3 => some (0 : Int32)))
theorem c_X3_winningTake {l : Launch} {G : gT} {χ σ : St} {a0 : Int64} {a2 : Int32} {a3 : Int32} (hf : FW G) {q : Int32} (h : f_X3_winningTake a0 a2 a3 = some q) : Ct l G yX3_winningTake prog_5_method_3_code 5 (some .int) 1 21 [.long a0, .int a2, .int a3] χ σ (some (.int q)) χ σ := by
  refine Ct.of (by decide) (Nat.le_of_ble_eq_true rfl) ?_
  intro p e s m args below meth c Q X hr hlk hQ
  have hx := X.1
  have hb := X.2.1
  have j39_3 : ∀ (x0 : Int64) (x2 : Int32) (x3 : Int32) (x4 : Int32) (o : (Int32) ⊕ ((Int32) ⊕ (Unit))), f_X3_winningTake_j39_3 x0 x2 x3 x4 = some o → Sum.elim (fun z : Int32 => Wat p l e (rmk 1 21) s m args below meth c Q G 5 3 [] [(4, .int z), (0, .long x0), (2, .int x2), (3, .int x3)] χ σ) (Sum.elim (fun r : Int32 => r = q) (fun z : Unit => Wat p l e (rmk 1 21) s m args below meth c Q G 5 45 [] [] χ σ)) o → Wat p l e (rmk 1 21) s m args below meth c Q G 5 39 [] [(0, .long x0), (2, .int x2), (3, .int x3), (4, .int x4)] χ σ := by
    intro x0 x2 x3 x4 o h hk H locs ls hw hl
    unfold f_X3_winningTake_j39_3 at h
    refine lv_iinc (v := (x4 + (1 : Int32))) (k := 3) (lv' := [(4, .int (x4 + (1 : Int32))), (0, .long x0), (2, .int x2), (3, .int x3)]) hx hb d_X3_winningTake_39 hl rfl (by rfl) (Nat.le_of_ble_eq_true rfl) rfl (fun ls hl => ?_)
    refine lv_goto (tgt := 3) hx hb d_X3_winningTake_42 (by decide) ?_
    obtain rfl := Option.some.inj h
    dsimp only [Sum.elim_inl] at hk
    exact hk _ _ _ hw (lv_sub hl [0, 1, 2, 3] rfl)
  have b3 : ∀ (y0 : Int64) (y2 : Int32) (y3 : Int32) (x4 : Int32) (o : (Int32) ⊕ ((Int32) ⊕ (Unit))), f_X3_winningTake_s3 y0 y2 y3 x4 = some o → Sum.elim (fun z : Int32 => Wat p l e (rmk 1 21) s m args below meth c Q G 5 3 [] [(4, .int z), (0, .long y0), (2, .int y2), (3, .int y3)] χ σ) (Sum.elim (fun r : Int32 => r = q) (fun z : Unit => Wat p l e (rmk 1 21) s m args below meth c Q G 5 45 [] [] χ σ)) o → Wat p l e (rmk 1 21) s m args below meth c Q G 5 3 [] [(4, .int x4), (0, .long y0), (2, .int y2), (3, .int y3)] χ σ := by
    intro y0 y2 y3 x4 o h hk H locs ls hw hl
    unfold f_X3_winningTake_s3 at h
    refine lv_iload hx hb d_X3_winningTake_3 (lv_at hl 0 rfl) ?_
    refine lv_iload_n hx hb d_X3_winningTake_5 rfl (lv_at hl 3 rfl) ?_
    refine lv_icmp_gt (tgt := 45) hx hb d_X3_winningTake_6 (by decide) (fun hc => ?_) (fun hc => ?_)
    · have h := ite_t h hc
      obtain rfl := Option.some.inj h
      dsimp only [Sum.elim_inr, Sum.elim_inl] at hk
      exact hk _ _ _ hw (lv_sub hl [] rfl)
    · have h := ite_f h hc
      refine lv_iload hx hb d_X3_winningTake_9 (lv_at hl 0 rfl) ?_
      refine lv_iload_n hx hb d_X3_winningTake_11 rfl (lv_at hl 2 rfl) ?_
      refine lv_icmp_gt (tgt := 45) hx hb d_X3_winningTake_12 (by decide) (fun hc => ?_) (fun hc => ?_)
      · have h := ite_t h hc
        obtain rfl := Option.some.inj h
        dsimp only [Sum.elim_inr, Sum.elim_inl] at hk
        exact hk _ _ _ hw (lv_sub hl [] rfl)
      · have h := ite_f h hc
        refine lv_iload hx hb d_X3_winningTake_15 (lv_at hl 0 rfl) ?_
        obtain ⟨q1, e2, h⟩ := bd_some h
        refine r_callS (As := [.int x4]) (rest := []) (st' := [.int q1]) X hw hl mwX3_canBeTaken wd_805 wd_804 (c_X3_canBeTaken hf e2) rfl ⟨Nat.le_of_ble_eq_true rfl, Nat.le_of_ble_eq_true rfl⟩ ⟨Nat.le_refl _, Nat.le_refl _⟩ rfl rfl (Nat.le_of_ble_eq_true rfl) d_X3_winningTake_17 (fun H locs hw => ?_)
        refine lv_if_eq (tgt := 39) hx hb d_X3_winningTake_20 (by decide) (fun hc => ?_) (fun hc => ?_)
        · have h := ite_t h hc
          exact j39_3 y0 y2 y3 x4 o h hk _ _ _ hw (lv_sub hl [1, 2, 3, 0] rfl)
        · have h := ite_f h hc
          refine lv_lload_n hx hb d_X3_winningTake_23 rfl (lv_at hl 1 rfl) ?_
          refine lv_iload_n hx hb d_X3_winningTake_24 rfl (lv_at hl 2 rfl) ?_
          refine lv_iload hx hb d_X3_winningTake_25 (lv_at hl 0 rfl) ?_
          refine lv_isub hx hb d_X3_winningTake_27 ?_
          refine lv_lshr hx hb d_X3_winningTake_28 rfl ?_
          refine lv_lconst (v := (1 : Int64)) hx hb d_X3_winningTake_29 (by decide) ?_
          refine lv_land hx hb d_X3_winningTake_30 ?_
          refine lv_lconst (v := (0 : Int64)) hx hb d_X3_winningTake_31 (by decide) ?_
          refine W.lcmp hx hb d_X3_winningTake_32 ?_
          refine lv_if_ne (tgt := 39) hx hb d_X3_winningTake_33 (by decide) (fun hc => ?_) (fun hc => ?_)
          · have h := ite_f h hc
            exact j39_3 y0 y2 y3 x4 o h hk _ _ _ hw (lv_sub hl [1, 2, 3, 0] rfl)
          · have h := ite_t h hc
            refine lv_iload hx hb d_X3_winningTake_36 (lv_at hl 0 rfl) ?_
            obtain rfl := Option.some.inj h
            cases (show _ = q from hk)
            subst hQ
            exact r_iret X hr hlk hw d_X3_winningTake_38
  intro H locs ls hw hl
  have hl : lv_has ls 5 [(0, .long a0), (2, .int a2), (3, .int a3)] := hl
  unfold f_X3_winningTake at h
  refine lv_iconst (v := (1 : Int32)) hx hb d_X3_winningTake_0 (by decide) ?_
  refine lv_istore (lv' := [(4, .int (1 : Int32)), (0, .long a0), (2, .int a2), (3, .int a3)]) hx hb d_X3_winningTake_1 hl (Nat.le_of_ble_eq_true rfl) rfl (fun ls hl => ?_)
  obtain ⟨z3, e4, h⟩ := bd_some h
  refine iter_w (Wh := fun z : Int32 => Wat p l e (rmk 1 21) s m args below meth c Q G 5 3 [] [(4, .int z), (0, .long a0), (2, .int a2), (3, .int a3)] χ σ) (K := Sum.elim (fun r : Int32 => r = q) (fun z : Unit => Wat p l e (rmk 1 21) s m args below meth c Q G 5 45 [] [] χ σ)) (fun z o h1 h2 => b3 a0 a2 a3 z o h1 h2) FU _ _ e4 ?_ _ _ _ hw (lv_sub hl [0, 1, 2, 3] rfl)
  rcases z3 with r | z3
  · exact Option.some.inj h
  · dsimp only [Sum.elim_inr] at h ⊢
    intro H locs ls hw hl
    refine lv_iconst (v := (0 : Int32)) hx hb d_X3_winningTake_45 (by decide) ?_
    obtain rfl := Option.some.inj h
    subst hQ
    exact r_iret X hr hlk hw d_X3_winningTake_46
abbrev yX3_firstTake : MethodName := ⟨"OysterBeds$Games", "firstTake", "(II)I"⟩
theorem mwX3_firstTake : MW yX3_firstTake prog_5_method_2_code 5 (some .int) 2 := ⟨wd_800, wd_23, by decide +kernel⟩
theorem d_X3_firstTake_0 : decode prog_5_method_2_code 0 = .ok (.lconst 1, 1) := by decide +kernel
theorem d_X3_firstTake_1 : decode prog_5_method_2_code 1 = .ok (.lstore_n 2, 1) := by decide +kernel
theorem d_X3_firstTake_2 : decode prog_5_method_2_code 2 = .ok (.iconst 1, 1) := by decide +kernel
theorem d_X3_firstTake_3 : decode prog_5_method_2_code 3 = .ok (.istore 4, 2) := by decide +kernel
theorem d_X3_firstTake_5 : decode prog_5_method_2_code 5 = .ok (.iload 4, 2) := by decide +kernel
theorem d_X3_firstTake_7 : decode prog_5_method_2_code 7 = .ok (.iload_n 0, 1) := by decide +kernel
theorem d_X3_firstTake_8 : decode prog_5_method_2_code 8 = .ok (.if_icmp .ge 26, 3) := by decide +kernel
theorem d_X3_firstTake_11 : decode prog_5_method_2_code 11 = .ok (.lload_n 2, 1) := by decide +kernel
theorem d_X3_firstTake_12 : decode prog_5_method_2_code 12 = .ok (.iload 4, 2) := by decide +kernel
theorem d_X3_firstTake_14 : decode prog_5_method_2_code 14 = .ok (.iload_n 1, 1) := by decide +kernel
theorem d_X3_firstTake_15 : decode prog_5_method_2_code 15 = .ok (.invokestatic 9, 3) := by decide +kernel
theorem d_X3_firstTake_18 : decode prog_5_method_2_code 18 = .ok (.ifCond .le 10, 3) := by decide +kernel
theorem d_X3_firstTake_21 : decode prog_5_method_2_code 21 = .ok (.lload_n 2, 1) := by decide +kernel
theorem d_X3_firstTake_22 : decode prog_5_method_2_code 22 = .ok (.lconst 1, 1) := by decide +kernel
theorem d_X3_firstTake_23 : decode prog_5_method_2_code 23 = .ok (.iload 4, 2) := by decide +kernel
theorem d_X3_firstTake_25 : decode prog_5_method_2_code 25 = .ok (.lshl, 1) := by decide +kernel
theorem d_X3_firstTake_26 : decode prog_5_method_2_code 26 = .ok (.lor, 1) := by decide +kernel
theorem d_X3_firstTake_27 : decode prog_5_method_2_code 27 = .ok (.lstore_n 2, 1) := by decide +kernel
theorem d_X3_firstTake_28 : decode prog_5_method_2_code 28 = .ok (.iinc 4 1, 3) := by decide +kernel
theorem d_X3_firstTake_31 : decode prog_5_method_2_code 31 = .ok (.goto (-26), 3) := by decide +kernel
theorem d_X3_firstTake_34 : decode prog_5_method_2_code 34 = .ok (.lload_n 2, 1) := by decide +kernel
theorem d_X3_firstTake_35 : decode prog_5_method_2_code 35 = .ok (.iload_n 0, 1) := by decide +kernel
theorem d_X3_firstTake_36 : decode prog_5_method_2_code 36 = .ok (.iload_n 1, 1) := by decide +kernel
theorem d_X3_firstTake_37 : decode prog_5_method_2_code 37 = .ok (.invokestatic 9, 3) := by decide +kernel
theorem d_X3_firstTake_40 : decode prog_5_method_2_code 40 = .ok (.ireturn, 1) := by decide +kernel
def f_X3_firstTake_j28_5 (x0 : Int32) (x1 : Int32) (x2 : Int64) (x4 : Int32) : Option ((Int64 × Int32) ⊕ (Int64)) := some (.inl (x2, (x4 + (1 : Int32))))
def f_X3_firstTake_s5 (y0 : Int32) (y1 : Int32) (x2 : Int64) (x4 : Int32) : Option ((Int64 × Int32) ⊕ (Int64)) := (if y0 ≤ x4 then some (.inr x2) else (f_X3_winningTake x2 x4 y1).bind (fun q1 => f_X3_firstTake_j28_5 y0 y1 (if q1 ≤ 0 then x2 else (x2 ||| ((1 : Int64) <<< (x4.toInt64 &&& 63)))) x4))
def f_X3_firstTake (a0 : Int32) (a1 : Int32) : Option (Int32) := (iter (fun z => f_X3_firstTake_s5 a0 a1 z.1 z.2) FU ((1 : Int64), (1 : Int32))).bind (fun z3 => (f_X3_winningTake z3 a0 a1).bind (fun q6 => some q6))
theorem c_X3_firstTake {l : Launch} {G : gT} {χ σ : St} {a0 : Int32} {a1 : Int32} (hf : FW G) {q : Int32} (h : f_X3_firstTake a0 a1 = some q) : Ct l G yX3_firstTake prog_5_method_2_code 5 (some .int) 2 45 [.int a0, .int a1] χ σ (some (.int q)) χ σ := by
  refine Ct.of (by decide) (Nat.le_of_ble_eq_true rfl) ?_
  intro p e s m args below meth c Q X hr hlk hQ
  have hx := X.1
  have hb := X.2.1
  have j28_5 : ∀ (x0 : Int32) (x1 : Int32) (x2 : Int64) (x4 : Int32) (o : (Int64 × Int32) ⊕ (Int64)), f_X3_firstTake_j28_5 x0 x1 x2 x4 = some o → Sum.elim (fun z : Int64 × Int32 => Wat p l e (rmk 2 45) s m args below meth c Q G 5 5 [] [(2, .long z.1), (4, .int z.2), (0, .int x0), (1, .int x1)] χ σ) (fun z : Int64 => Wat p l e (rmk 2 45) s m args below meth c Q G 5 34 [] [(0, .int x0), (1, .int x1), (2, .long z)] χ σ) o → Wat p l e (rmk 2 45) s m args below meth c Q G 5 28 [] [(0, .int x0), (1, .int x1), (2, .long x2), (4, .int x4)] χ σ := by
    intro x0 x1 x2 x4 o h hk H locs ls hw hl
    unfold f_X3_firstTake_j28_5 at h
    refine lv_iinc (v := (x4 + (1 : Int32))) (k := 3) (lv' := [(4, .int (x4 + (1 : Int32))), (0, .int x0), (1, .int x1), (2, .long x2)]) hx hb d_X3_firstTake_28 hl rfl (by rfl) (Nat.le_of_ble_eq_true rfl) rfl (fun ls hl => ?_)
    refine lv_goto (tgt := 5) hx hb d_X3_firstTake_31 (by decide) ?_
    obtain rfl := Option.some.inj h
    dsimp only [Sum.elim_inl] at hk
    exact hk _ _ _ hw (lv_sub hl [3, 0, 1, 2] rfl)
  have b5 : ∀ (y0 : Int32) (y1 : Int32) (x2 : Int64) (x4 : Int32) (o : (Int64 × Int32) ⊕ (Int64)), f_X3_firstTake_s5 y0 y1 x2 x4 = some o → Sum.elim (fun z : Int64 × Int32 => Wat p l e (rmk 2 45) s m args below meth c Q G 5 5 [] [(2, .long z.1), (4, .int z.2), (0, .int y0), (1, .int y1)] χ σ) (fun z : Int64 => Wat p l e (rmk 2 45) s m args below meth c Q G 5 34 [] [(0, .int y0), (1, .int y1), (2, .long z)] χ σ) o → Wat p l e (rmk 2 45) s m args below meth c Q G 5 5 [] [(2, .long x2), (4, .int x4), (0, .int y0), (1, .int y1)] χ σ := by
    intro y0 y1 x2 x4 o h hk H locs ls hw hl
    unfold f_X3_firstTake_s5 at h
    refine lv_iload hx hb d_X3_firstTake_5 (lv_at hl 1 rfl) ?_
    refine lv_iload_n hx hb d_X3_firstTake_7 rfl (lv_at hl 2 rfl) ?_
    refine lv_icmp_ge (tgt := 34) hx hb d_X3_firstTake_8 (by decide) (fun hc => ?_) (fun hc => ?_)
    · have h := ite_t h hc
      obtain rfl := Option.some.inj h
      dsimp only [Sum.elim_inr] at hk
      exact hk _ _ _ hw (lv_sub hl [2, 3, 0] rfl)
    · have h := ite_f h hc
      refine lv_lload_n hx hb d_X3_firstTake_11 rfl (lv_at hl 0 rfl) ?_
      refine lv_iload hx hb d_X3_firstTake_12 (lv_at hl 1 rfl) ?_
      refine lv_iload_n hx hb d_X3_firstTake_14 rfl (lv_at hl 3 rfl) ?_
      obtain ⟨q1, e2, h⟩ := bd_some h
      refine r_callS (As := [.long x2, .int x4, .int y1]) (rest := []) (st' := [.int q1]) X hw hl mwX3_winningTake wd_802 wd_801 (c_X3_winningTake hf e2) rfl ⟨Nat.le_of_ble_eq_true rfl, Nat.le_of_ble_eq_true rfl⟩ ⟨Nat.le_refl _, Nat.le_refl _⟩ rfl rfl (Nat.le_of_ble_eq_true rfl) d_X3_firstTake_15 (fun H locs hw => ?_)
      refine lv_if_le (tgt := 28) hx hb d_X3_firstTake_18 (by decide) (fun hc => ?_) (fun hc => ?_)
      · simp only [if_pos hc] at h
        exact j28_5 y0 y1 x2 x4 o h hk _ _ _ hw (lv_sub hl [2, 3, 0, 1] rfl)
      · simp only [if_neg hc] at h
        refine lv_lload_n hx hb d_X3_firstTake_21 rfl (lv_at hl 0 rfl) ?_
        refine lv_lconst (v := (1 : Int64)) hx hb d_X3_firstTake_22 (by decide) ?_
        refine lv_iload hx hb d_X3_firstTake_23 (lv_at hl 1 rfl) ?_
        refine lv_lshl hx hb d_X3_firstTake_25 rfl ?_
        refine lv_lor hx hb d_X3_firstTake_26 ?_
        refine lv_lstore_n (lv' := [(2, .long (x2 ||| ((1 : Int64) <<< (x4.toInt64 &&& 63)))), (4, .int x4), (0, .int y0), (1, .int y1)]) hx hb d_X3_firstTake_27 rfl hl (Nat.le_of_ble_eq_true rfl) rfl (fun ls hl => ?_)
        exact j28_5 y0 y1 (x2 ||| ((1 : Int64) <<< (x4.toInt64 &&& 63))) x4 o h hk _ _ _ hw (lv_sub hl [2, 3, 0, 1] rfl)
  intro H locs ls hw hl
  have hl : lv_has ls 5 [(0, .int a0), (1, .int a1)] := hl
  unfold f_X3_firstTake at h
  refine lv_lconst (v := (1 : Int64)) hx hb d_X3_firstTake_0 (by decide) ?_
  refine lv_lstore_n (lv' := [(2, .long (1 : Int64)), (0, .int a0), (1, .int a1)]) hx hb d_X3_firstTake_1 rfl hl (Nat.le_of_ble_eq_true rfl) rfl (fun ls hl => ?_)
  refine lv_iconst (v := (1 : Int32)) hx hb d_X3_firstTake_2 (by decide) ?_
  refine lv_istore (lv' := [(4, .int (1 : Int32)), (2, .long (1 : Int64)), (0, .int a0), (1, .int a1)]) hx hb d_X3_firstTake_3 hl (Nat.le_of_ble_eq_true rfl) rfl (fun ls hl => ?_)
  obtain ⟨z3, e4, h⟩ := bd_some h
  refine iter_w (Wh := fun z : Int64 × Int32 => Wat p l e (rmk 2 45) s m args below meth c Q G 5 5 [] [(2, .long z.1), (4, .int z.2), (0, .int a0), (1, .int a1)] χ σ) (K := fun z : Int64 => Wat p l e (rmk 2 45) s m args below meth c Q G 5 34 [] [(0, .int a0), (1, .int a1), (2, .long z)] χ σ) (fun z o h1 h2 => b5 a0 a1 z.1 z.2 o h1 h2) FU _ _ e4 ?_ _ _ _ hw (lv_sub hl [1, 0, 2, 3] rfl)
  intro H locs ls hw hl
  refine lv_lload_n hx hb d_X3_firstTake_34 rfl (lv_at hl 2 rfl) ?_
  refine lv_iload_n hx hb d_X3_firstTake_35 rfl (lv_at hl 0 rfl) ?_
  refine lv_iload_n hx hb d_X3_firstTake_36 rfl (lv_at hl 1 rfl) ?_
  obtain ⟨q6, e7, h⟩ := bd_some h
  refine r_callS (As := [.long z3, .int a0, .int a1]) (rest := []) (st' := [.int q6]) X hw hl mwX3_winningTake wd_802 wd_801 (c_X3_winningTake hf e7) rfl ⟨Nat.le_of_ble_eq_true rfl, Nat.le_of_ble_eq_true rfl⟩ ⟨Nat.le_refl _, Nat.le_refl _⟩ rfl rfl (Nat.le_of_ble_eq_true rfl) d_X3_firstTake_37 (fun H locs hw => ?_)
  obtain rfl := Option.some.inj h
  subst hQ
  exact r_iret X hr hlk hw d_X3_firstTake_40
abbrev yX3_worth : MethodName := ⟨"OysterBeds$Games", "worth", "(III)I"⟩
theorem mwX3_worth : MW yX3_worth prog_5_method_7_code 3 (some .int) 3 := ⟨wd_826, wd_23, by decide +kernel⟩
theorem d_X3_worth_0 : decode prog_5_method_7_code 0 = .ok (.iload_n 1, 1) := by decide +kernel
theorem d_X3_worth_1 : decode prog_5_method_7_code 1 = .ok (.iload_n 2, 1) := by decide +kernel
theorem d_X3_worth_2 : decode prog_5_method_7_code 2 = .ok (.if_icmp .le 9, 3) := by decide +kernel
theorem d_X3_worth_5 : decode prog_5_method_7_code 5 = .ok (.iload_n 0, 1) := by decide +kernel
theorem d_X3_worth_6 : decode prog_5_method_7_code 6 = .ok (.iload_n 1, 1) := by decide +kernel
theorem d_X3_worth_7 : decode prog_5_method_7_code 7 = .ok (.iload_n 2, 1) := by decide +kernel
theorem d_X3_worth_8 : decode prog_5_method_7_code 8 = .ok (.isub, 1) := by decide +kernel
theorem d_X3_worth_9 : decode prog_5_method_7_code 9 = .ok (.isub, 1) := by decide +kernel
theorem d_X3_worth_10 : decode prog_5_method_7_code 10 = .ok (.ireturn, 1) := by decide +kernel
theorem d_X3_worth_11 : decode prog_5_method_7_code 11 = .ok (.iload_n 1, 1) := by decide +kernel
theorem d_X3_worth_12 : decode prog_5_method_7_code 12 = .ok (.iload_n 2, 1) := by decide +kernel
theorem d_X3_worth_13 : decode prog_5_method_7_code 13 = .ok (.if_icmp .ge 11, 3) := by decide +kernel
theorem d_X3_worth_16 : decode prog_5_method_7_code 16 = .ok (.iload_n 0, 1) := by decide +kernel
theorem d_X3_worth_17 : decode prog_5_method_7_code 17 = .ok (.iconst 2, 1) := by decide +kernel
theorem d_X3_worth_18 : decode prog_5_method_7_code 18 = .ok (.idiv, 1) := by decide +kernel
theorem d_X3_worth_19 : decode prog_5_method_7_code 19 = .ok (.iload_n 1, 1) := by decide +kernel
theorem d_X3_worth_20 : decode prog_5_method_7_code 20 = .ok (.isub, 1) := by decide +kernel
theorem d_X3_worth_21 : decode prog_5_method_7_code 21 = .ok (.goto 6, 3) := by decide +kernel
theorem d_X3_worth_24 : decode prog_5_method_7_code 24 = .ok (.iload_n 0, 1) := by decide +kernel
theorem d_X3_worth_25 : decode prog_5_method_7_code 25 = .ok (.iconst 3, 1) := by decide +kernel
theorem d_X3_worth_26 : decode prog_5_method_7_code 26 = .ok (.idiv, 1) := by decide +kernel
theorem d_X3_worth_27 : decode prog_5_method_7_code 27 = .ok (.ireturn, 1) := by decide +kernel
def f_X3_worth (a0 : Int32) (a1 : Int32) (a2 : Int32) : Option (Int32) := some (if a1 ≤ a2 then (if a2 ≤ a1 then (a0 / (3 : Int32)) else ((a0 / (2 : Int32)) - a1)) else (a0 - (a1 - a2)))
theorem c_X3_worth {l : Launch} {G : gT} {χ σ : St} {a0 : Int32} {a1 : Int32} {a2 : Int32} (hf : FW G) {q : Int32} (h : f_X3_worth a0 a1 a2 = some q) : Ct l G yX3_worth prog_5_method_7_code 3 (some .int) 0 0 [.int a0, .int a1, .int a2] χ σ (some (.int q)) χ σ := by
  refine Ct.of (by decide) (Nat.le_of_ble_eq_true rfl) ?_
  intro p e s m args below meth c Q X hr hlk hQ
  have hx := X.1
  have hb := X.2.1
  intro H locs ls hw hl
  have hl : lv_has ls 3 [(0, .int a0), (1, .int a1), (2, .int a2)] := hl
  unfold f_X3_worth at h
  refine lv_iload_n hx hb d_X3_worth_0 rfl (lv_at hl 1 rfl) ?_
  refine lv_iload_n hx hb d_X3_worth_1 rfl (lv_at hl 2 rfl) ?_
  refine lv_icmp_le (tgt := 11) hx hb d_X3_worth_2 (by decide) (fun hc => ?_) (fun hc => ?_)
  · simp only [if_pos hc] at h
    refine lv_iload_n hx hb d_X3_worth_11 rfl (lv_at hl 1 rfl) ?_
    refine lv_iload_n hx hb d_X3_worth_12 rfl (lv_at hl 2 rfl) ?_
    refine lv_icmp_ge (tgt := 24) hx hb d_X3_worth_13 (by decide) (fun hc => ?_) (fun hc => ?_)
    · simp only [if_pos hc] at h
      refine lv_iload_n hx hb d_X3_worth_24 rfl (lv_at hl 0 rfl) ?_
      refine lv_iconst (v := (3 : Int32)) hx hb d_X3_worth_25 (by decide) ?_
      refine lv_idiv hx hb d_X3_worth_26 (by decide) ?_
      obtain rfl := Option.some.inj h
      subst hQ
      exact r_iret X hr hlk hw d_X3_worth_27
    · simp only [if_neg hc] at h
      refine lv_iload_n hx hb d_X3_worth_16 rfl (lv_at hl 0 rfl) ?_
      refine lv_iconst (v := (2 : Int32)) hx hb d_X3_worth_17 (by decide) ?_
      refine lv_idiv hx hb d_X3_worth_18 (by decide) ?_
      refine lv_iload_n hx hb d_X3_worth_19 rfl (lv_at hl 1 rfl) ?_
      refine lv_isub hx hb d_X3_worth_20 ?_
      refine lv_goto (tgt := 27) hx hb d_X3_worth_21 (by decide) ?_
      obtain rfl := Option.some.inj h
      subst hQ
      exact r_iret X hr hlk hw d_X3_worth_27
  · simp only [if_neg hc] at h
    refine lv_iload_n hx hb d_X3_worth_5 rfl (lv_at hl 0 rfl) ?_
    refine lv_iload_n hx hb d_X3_worth_6 rfl (lv_at hl 1 rfl) ?_
    refine lv_iload_n hx hb d_X3_worth_7 rfl (lv_at hl 2 rfl) ?_
    refine lv_isub hx hb d_X3_worth_8 ?_
    refine lv_isub hx hb d_X3_worth_9 ?_
    obtain rfl := Option.some.inj h
    subst hQ
    exact r_iret X hr hlk hw d_X3_worth_10
abbrev yX3_bestAgainst : MethodName := ⟨"OysterBeds$Games", "bestAgainst", "(II)I"⟩
theorem mwX3_bestAgainst : MW yX3_bestAgainst prog_5_method_6_code 4 (some .int) 2 := ⟨wd_829, wd_23, by decide +kernel⟩
theorem d_X3_bestAgainst_0 : decode prog_5_method_6_code 0 = .ok (.iload_n 0, 1) := by decide +kernel
theorem d_X3_bestAgainst_1 : decode prog_5_method_6_code 1 = .ok (.iconst 0, 1) := by decide +kernel
theorem d_X3_bestAgainst_2 : decode prog_5_method_6_code 2 = .ok (.iload_n 1, 1) := by decide +kernel
theorem d_X3_bestAgainst_3 : decode prog_5_method_6_code 3 = .ok (.invokestatic 19, 3) := by decide +kernel
theorem d_X3_bestAgainst_6 : decode prog_5_method_6_code 6 = .ok (.istore_n 2, 1) := by decide +kernel
theorem d_X3_bestAgainst_7 : decode prog_5_method_6_code 7 = .ok (.iconst 1, 1) := by decide +kernel
theorem d_X3_bestAgainst_8 : decode prog_5_method_6_code 8 = .ok (.istore_n 3, 1) := by decide +kernel
theorem d_X3_bestAgainst_9 : decode prog_5_method_6_code 9 = .ok (.iload_n 3, 1) := by decide +kernel
theorem d_X3_bestAgainst_10 : decode prog_5_method_6_code 10 = .ok (.bipush 10, 2) := by decide +kernel
theorem d_X3_bestAgainst_12 : decode prog_5_method_6_code 12 = .ok (.if_icmp .ge 20, 3) := by decide +kernel
theorem d_X3_bestAgainst_15 : decode prog_5_method_6_code 15 = .ok (.iload_n 2, 1) := by decide +kernel
theorem d_X3_bestAgainst_16 : decode prog_5_method_6_code 16 = .ok (.iload_n 0, 1) := by decide +kernel
theorem d_X3_bestAgainst_17 : decode prog_5_method_6_code 17 = .ok (.iload_n 3, 1) := by decide +kernel
theorem d_X3_bestAgainst_18 : decode prog_5_method_6_code 18 = .ok (.iload_n 1, 1) := by decide +kernel
theorem d_X3_bestAgainst_19 : decode prog_5_method_6_code 19 = .ok (.invokestatic 19, 3) := by decide +kernel
theorem d_X3_bestAgainst_22 : decode prog_5_method_6_code 22 = .ok (.invokestatic 27, 3) := by decide +kernel
theorem d_X3_bestAgainst_25 : decode prog_5_method_6_code 25 = .ok (.istore_n 2, 1) := by decide +kernel
theorem d_X3_bestAgainst_26 : decode prog_5_method_6_code 26 = .ok (.iinc 3 1, 3) := by decide +kernel
theorem d_X3_bestAgainst_29 : decode prog_5_method_6_code 29 = .ok (.goto (-20), 3) := by decide +kernel
theorem d_X3_bestAgainst_32 : decode prog_5_method_6_code 32 = .ok (.iload_n 2, 1) := by decide +kernel
theorem d_X3_bestAgainst_33 : decode prog_5_method_6_code 33 = .ok (.ireturn, 1) := by decide +kernel
def f_X3_bestAgainst_s9 (y0 : Int32) (y1 : Int32) (x2 : Int32) (x3 : Int32) : Option ((Int32 × Int32) ⊕ (Int32)) := (if (10 : Int32) ≤ x3 then some (.inr x2) else (f_X3_worth y0 x3 y1).bind (fun q3 => some (.inl ((if x2 < q3 then q3 else x2), (x3 + (1 : Int32))))))
def f_X3_bestAgainst (a0 : Int32) (a1 : Int32) : Option (Int32) := (f_X3_worth a0 (0 : Int32) a1).bind (fun q1 => (iter (fun z => f_X3_bestAgainst_s9 a0 a1 z.1 z.2) FU (q1, (1 : Int32))).bind (fun z5 => some z5))
theorem c_X3_bestAgainst {l : Launch} {G : gT} {χ σ : St} {a0 : Int32} {a1 : Int32} (hf : FW G) {q : Int32} (h : f_X3_bestAgainst a0 a1 = some q) : Ct l G yX3_bestAgainst prog_5_method_6_code 4 (some .int) 1 22 [.int a0, .int a1] χ σ (some (.int q)) χ σ := by
  refine Ct.of (by decide) (Nat.le_of_ble_eq_true rfl) ?_
  intro p e s m args below meth c Q X hr hlk hQ
  have hx := X.1
  have hb := X.2.1
  have b9 : ∀ (y0 : Int32) (y1 : Int32) (x2 : Int32) (x3 : Int32) (o : (Int32 × Int32) ⊕ (Int32)), f_X3_bestAgainst_s9 y0 y1 x2 x3 = some o → Sum.elim (fun z : Int32 × Int32 => Wat p l e (rmk 1 22) s m args below meth c Q G 4 9 [] [(2, .int z.1), (3, .int z.2), (0, .int y0), (1, .int y1)] χ σ) (fun z : Int32 => Wat p l e (rmk 1 22) s m args below meth c Q G 4 32 [] [(2, .int z)] χ σ) o → Wat p l e (rmk 1 22) s m args below meth c Q G 4 9 [] [(2, .int x2), (3, .int x3), (0, .int y0), (1, .int y1)] χ σ := by
    intro y0 y1 x2 x3 o h hk H locs ls hw hl
    unfold f_X3_bestAgainst_s9 at h
    refine lv_iload_n hx hb d_X3_bestAgainst_9 rfl (lv_at hl 1 rfl) ?_
    refine lv_bipush (v := (10 : Int32)) hx hb d_X3_bestAgainst_10 (by decide) ?_
    refine lv_icmp_ge (tgt := 32) hx hb d_X3_bestAgainst_12 (by decide) (fun hc => ?_) (fun hc => ?_)
    · have h := ite_t h hc
      obtain rfl := Option.some.inj h
      dsimp only [Sum.elim_inr] at hk
      exact hk _ _ _ hw (lv_sub hl [0] rfl)
    · have h := ite_f h hc
      refine lv_iload_n hx hb d_X3_bestAgainst_15 rfl (lv_at hl 0 rfl) ?_
      refine lv_iload_n hx hb d_X3_bestAgainst_16 rfl (lv_at hl 2 rfl) ?_
      refine lv_iload_n hx hb d_X3_bestAgainst_17 rfl (lv_at hl 1 rfl) ?_
      refine lv_iload_n hx hb d_X3_bestAgainst_18 rfl (lv_at hl 3 rfl) ?_
      obtain ⟨q3, e4, h⟩ := bd_some h
      refine r_callS (As := [.int y0, .int x3, .int y1]) (rest := [.int x2]) (st' := [.int q3, .int x2]) X hw hl mwX3_worth wd_825 wd_824 (c_X3_worth hf e4) rfl ⟨Nat.le_of_ble_eq_true rfl, Nat.le_of_ble_eq_true rfl⟩ ⟨Nat.le_refl _, Nat.le_refl _⟩ rfl rfl (Nat.le_of_ble_eq_true rfl) d_X3_bestAgainst_19 (fun H locs hw => ?_)
      refine r_max X hl wd_830 ⟨Nat.le_of_ble_eq_true rfl, Nat.le_of_ble_eq_true rfl⟩ ⟨Nat.le_refl _, Nat.le_refl _⟩ d_X3_bestAgainst_22 ?_
      refine lv_istore_n (lv' := [(2, .int (if x2 < q3 then q3 else x2)), (3, .int x3), (0, .int y0), (1, .int y1)]) hx hb d_X3_bestAgainst_25 rfl hl (Nat.le_of_ble_eq_true rfl) rfl (fun ls hl => ?_)
      refine lv_iinc (v := (x3 + (1 : Int32))) (k := 1) (lv' := [(3, .int (x3 + (1 : Int32))), (2, .int (if x2 < q3 then q3 else x2)), (0, .int y0), (1, .int y1)]) hx hb d_X3_bestAgainst_26 hl rfl (by rfl) (Nat.le_of_ble_eq_true rfl) rfl (fun ls hl => ?_)
      refine lv_goto (tgt := 9) hx hb d_X3_bestAgainst_29 (by decide) ?_
      obtain rfl := Option.some.inj h
      dsimp only [Sum.elim_inl] at hk
      exact hk _ _ _ hw (lv_sub hl [1, 0, 2, 3] rfl)
  intro H locs ls hw hl
  have hl : lv_has ls 4 [(0, .int a0), (1, .int a1)] := hl
  unfold f_X3_bestAgainst at h
  refine lv_iload_n hx hb d_X3_bestAgainst_0 rfl (lv_at hl 0 rfl) ?_
  refine lv_iconst (v := (0 : Int32)) hx hb d_X3_bestAgainst_1 (by decide) ?_
  refine lv_iload_n hx hb d_X3_bestAgainst_2 rfl (lv_at hl 1 rfl) ?_
  obtain ⟨q1, e2, h⟩ := bd_some h
  refine r_callS (As := [.int a0, .int (0 : Int32), .int a1]) (rest := []) (st' := [.int q1]) X hw hl mwX3_worth wd_825 wd_824 (c_X3_worth hf e2) rfl ⟨Nat.le_of_ble_eq_true rfl, Nat.le_of_ble_eq_true rfl⟩ ⟨Nat.le_refl _, Nat.le_refl _⟩ rfl rfl (Nat.le_of_ble_eq_true rfl) d_X3_bestAgainst_3 (fun H locs hw => ?_)
  refine lv_istore_n (lv' := [(2, .int q1), (0, .int a0), (1, .int a1)]) hx hb d_X3_bestAgainst_6 rfl hl (Nat.le_of_ble_eq_true rfl) rfl (fun ls hl => ?_)
  refine lv_iconst (v := (1 : Int32)) hx hb d_X3_bestAgainst_7 (by decide) ?_
  refine lv_istore_n (lv' := [(3, .int (1 : Int32)), (2, .int q1), (0, .int a0), (1, .int a1)]) hx hb d_X3_bestAgainst_8 rfl hl (Nat.le_of_ble_eq_true rfl) rfl (fun ls hl => ?_)
  obtain ⟨z5, e6, h⟩ := bd_some h
  refine iter_w (Wh := fun z : Int32 × Int32 => Wat p l e (rmk 1 22) s m args below meth c Q G 4 9 [] [(2, .int z.1), (3, .int z.2), (0, .int a0), (1, .int a1)] χ σ) (K := fun z : Int32 => Wat p l e (rmk 1 22) s m args below meth c Q G 4 32 [] [(2, .int z)] χ σ) (fun z o h1 h2 => b9 a0 a1 z.1 z.2 o h1 h2) FU _ _ e6 ?_ _ _ _ hw (lv_sub hl [1, 0, 2, 3] rfl)
  intro H locs ls hw hl
  refine lv_iload_n hx hb d_X3_bestAgainst_32 rfl (lv_at hl 0 rfl) ?_
  obtain rfl := Option.some.inj h
  subst hQ
  exact r_iret X hr hlk hw d_X3_bestAgainst_33
abbrev yX3_isAtRest : MethodName := ⟨"OysterBeds$Games", "isAtRest", "(III)Z"⟩
theorem mwX3_isAtRest : MW yX3_isAtRest prog_5_method_5_code 3 (some .boolean) 3 := ⟨wd_823, wd_23, by decide +kernel⟩
theorem d_X3_isAtRest_0 : decode prog_5_method_5_code 0 = .ok (.iload_n 0, 1) := by decide +kernel
theorem d_X3_isAtRest_1 : decode prog_5_method_5_code 1 = .ok (.iload_n 1, 1) := by decide +kernel
theorem d_X3_isAtRest_2 : decode prog_5_method_5_code 2 = .ok (.iload_n 2, 1) := by decide +kernel
theorem d_X3_isAtRest_3 : decode prog_5_method_5_code 3 = .ok (.invokestatic 19, 3) := by decide +kernel
theorem d_X3_isAtRest_6 : decode prog_5_method_5_code 6 = .ok (.iload_n 0, 1) := by decide +kernel
theorem d_X3_isAtRest_7 : decode prog_5_method_5_code 7 = .ok (.iload_n 2, 1) := by decide +kernel
theorem d_X3_isAtRest_8 : decode prog_5_method_5_code 8 = .ok (.invokestatic 23, 3) := by decide +kernel
theorem d_X3_isAtRest_11 : decode prog_5_method_5_code 11 = .ok (.if_icmp .ne 21, 3) := by decide +kernel
theorem d_X3_isAtRest_14 : decode prog_5_method_5_code 14 = .ok (.iload_n 0, 1) := by decide +kernel
theorem d_X3_isAtRest_15 : decode prog_5_method_5_code 15 = .ok (.iload_n 2, 1) := by decide +kernel
theorem d_X3_isAtRest_16 : decode prog_5_method_5_code 16 = .ok (.iload_n 1, 1) := by decide +kernel
theorem d_X3_isAtRest_17 : decode prog_5_method_5_code 17 = .ok (.invokestatic 19, 3) := by decide +kernel
theorem d_X3_isAtRest_20 : decode prog_5_method_5_code 20 = .ok (.iload_n 0, 1) := by decide +kernel
theorem d_X3_isAtRest_21 : decode prog_5_method_5_code 21 = .ok (.iload_n 1, 1) := by decide +kernel
theorem d_X3_isAtRest_22 : decode prog_5_method_5_code 22 = .ok (.invokestatic 23, 3) := by decide +kernel
theorem d_X3_isAtRest_25 : decode prog_5_method_5_code 25 = .ok (.if_icmp .ne 7, 3) := by decide +kernel
theorem d_X3_isAtRest_28 : decode prog_5_method_5_code 28 = .ok (.iconst 1, 1) := by decide +kernel
theorem d_X3_isAtRest_29 : decode prog_5_method_5_code 29 = .ok (.goto 4, 3) := by decide +kernel
theorem d_X3_isAtRest_32 : decode prog_5_method_5_code 32 = .ok (.iconst 0, 1) := by decide +kernel
theorem d_X3_isAtRest_33 : decode prog_5_method_5_code 33 = .ok (.ireturn, 1) := by decide +kernel
def f_X3_isAtRest (a0 : Int32) (a1 : Int32) (a2 : Int32) : Option (Int32) := (f_X3_worth a0 a1 a2).bind (fun q1 => (f_X3_bestAgainst a0 a2).bind (fun q3 => (if q1 = q3 then (f_X3_worth a0 a2 a1).bind (fun q5 => (f_X3_bestAgainst a0 a1).bind (fun q7 => some (if q5 = q7 then (1 : Int32) else (0 : Int32)))) else some (0 : Int32))))
theorem c_X3_isAtRest {l : Launch} {G : gT} {χ σ : St} {a0 : Int32} {a1 : Int32} {a2 : Int32} (hf : FW G) {q : Int32} (h : f_X3_isAtRest a0 a1 a2 = some q) : Ct l G yX3_isAtRest prog_5_method_5_code 3 (some .boolean) 2 45 [.int a0, .int a1, .int a2] χ σ (some (.int q)) χ σ := by
  refine Ct.of (by decide) (Nat.le_of_ble_eq_true rfl) ?_
  intro p e s m args below meth c Q X hr hlk hQ
  have hx := X.1
  have hb := X.2.1
  intro H locs ls hw hl
  have hl : lv_has ls 3 [(0, .int a0), (1, .int a1), (2, .int a2)] := hl
  unfold f_X3_isAtRest at h
  refine lv_iload_n hx hb d_X3_isAtRest_0 rfl (lv_at hl 0 rfl) ?_
  refine lv_iload_n hx hb d_X3_isAtRest_1 rfl (lv_at hl 1 rfl) ?_
  refine lv_iload_n hx hb d_X3_isAtRest_2 rfl (lv_at hl 2 rfl) ?_
  obtain ⟨q1, e2, h⟩ := bd_some h
  refine r_callS (As := [.int a0, .int a1, .int a2]) (rest := []) (st' := [.int q1]) X hw hl mwX3_worth wd_825 wd_824 (c_X3_worth hf e2) rfl ⟨Nat.le_of_ble_eq_true rfl, Nat.le_of_ble_eq_true rfl⟩ ⟨Nat.le_refl _, Nat.le_refl _⟩ rfl rfl (Nat.le_of_ble_eq_true rfl) d_X3_isAtRest_3 (fun H locs hw => ?_)
  refine lv_iload_n hx hb d_X3_isAtRest_6 rfl (lv_at hl 0 rfl) ?_
  refine lv_iload_n hx hb d_X3_isAtRest_7 rfl (lv_at hl 2 rfl) ?_
  obtain ⟨q3, e4, h⟩ := bd_some h
  refine r_callS (As := [.int a0, .int a2]) (rest := [.int q1]) (st' := [.int q3, .int q1]) X hw hl mwX3_bestAgainst wd_828 wd_827 (c_X3_bestAgainst hf e4) rfl ⟨Nat.le_of_ble_eq_true rfl, Nat.le_of_ble_eq_true rfl⟩ ⟨Nat.le_refl _, Nat.le_refl _⟩ rfl rfl (Nat.le_of_ble_eq_true rfl) d_X3_isAtRest_8 (fun H locs hw => ?_)
  refine lv_icmp_ne (tgt := 32) hx hb d_X3_isAtRest_11 (by decide) (fun hc => ?_) (fun hc => ?_)
  · have h := ite_f h hc
    refine lv_iconst (v := (0 : Int32)) hx hb d_X3_isAtRest_32 (by decide) ?_
    obtain rfl := Option.some.inj h
    subst hQ
    exact r_zret X hr nbz0 hlk hw d_X3_isAtRest_33
  · have h := ite_t h hc
    refine lv_iload_n hx hb d_X3_isAtRest_14 rfl (lv_at hl 0 rfl) ?_
    refine lv_iload_n hx hb d_X3_isAtRest_15 rfl (lv_at hl 2 rfl) ?_
    refine lv_iload_n hx hb d_X3_isAtRest_16 rfl (lv_at hl 1 rfl) ?_
    obtain ⟨q5, e6, h⟩ := bd_some h
    refine r_callS (As := [.int a0, .int a2, .int a1]) (rest := []) (st' := [.int q5]) X hw hl mwX3_worth wd_825 wd_824 (c_X3_worth hf e6) rfl ⟨Nat.le_of_ble_eq_true rfl, Nat.le_of_ble_eq_true rfl⟩ ⟨Nat.le_refl _, Nat.le_refl _⟩ rfl rfl (Nat.le_of_ble_eq_true rfl) d_X3_isAtRest_17 (fun H locs hw => ?_)
    refine lv_iload_n hx hb d_X3_isAtRest_20 rfl (lv_at hl 0 rfl) ?_
    refine lv_iload_n hx hb d_X3_isAtRest_21 rfl (lv_at hl 1 rfl) ?_
    obtain ⟨q7, e8, h⟩ := bd_some h
    refine r_callS (As := [.int a0, .int a1]) (rest := [.int q5]) (st' := [.int q7, .int q5]) X hw hl mwX3_bestAgainst wd_828 wd_827 (c_X3_bestAgainst hf e8) rfl ⟨Nat.le_of_ble_eq_true rfl, Nat.le_of_ble_eq_true rfl⟩ ⟨Nat.le_refl _, Nat.le_refl _⟩ rfl rfl (Nat.le_of_ble_eq_true rfl) d_X3_isAtRest_22 (fun H locs hw => ?_)
    refine lv_icmp_ne (tgt := 32) hx hb d_X3_isAtRest_25 (by decide) (fun hc => ?_) (fun hc => ?_)
    · simp only [if_neg hc] at h
      refine lv_iconst (v := (0 : Int32)) hx hb d_X3_isAtRest_32 (by decide) ?_
      obtain rfl := Option.some.inj h
      subst hQ
      exact r_zret X hr nbz0 hlk hw d_X3_isAtRest_33
    · simp only [if_pos hc] at h
      refine lv_iconst (v := (1 : Int32)) hx hb d_X3_isAtRest_28 (by decide) ?_
      refine lv_goto (tgt := 33) hx hb d_X3_isAtRest_29 (by decide) ?_
      obtain rfl := Option.some.inj h
      subst hQ
      exact r_zret X hr nbz1 hlk hw d_X3_isAtRest_33
abbrev yX3_stirred : MethodName := ⟨"OysterBeds$Games", "stirred", "(I)I"⟩
theorem mwX3_stirred : MW yX3_stirred prog_5_method_8_code 1 (some .int) 1 := ⟨wd_837, wd_23, by decide +kernel⟩
theorem d_X3_stirred_0 : decode prog_5_method_8_code 0 = .ok (.iload_n 0, 1) := by decide +kernel
theorem d_X3_stirred_1 : decode prog_5_method_8_code 1 = .ok (.ldc 32, 2) := by decide +kernel
theorem d_X3_stirred_3 : decode prog_5_method_8_code 3 = .ok (.imul, 1) := by decide +kernel
theorem d_X3_stirred_4 : decode prog_5_method_8_code 4 = .ok (.sipush 12345, 3) := by decide +kernel
theorem d_X3_stirred_7 : decode prog_5_method_8_code 7 = .ok (.iadd, 1) := by decide +kernel
theorem d_X3_stirred_8 : decode prog_5_method_8_code 8 = .ok (.ireturn, 1) := by decide +kernel
def f_X3_stirred (a0 : Int32) : Option (Int32) := some ((a0 * (1103515245 : Int32)) + (12345 : Int32))
theorem c_X3_stirred {l : Launch} {G : gT} {χ σ : St} {a0 : Int32} (hf : FW G) {q : Int32} (h : f_X3_stirred a0 = some q) : Ct l G yX3_stirred prog_5_method_8_code 1 (some .int) 0 0 [.int a0] χ σ (some (.int q)) χ σ := by
  refine Ct.of (by decide) (Nat.le_of_ble_eq_true rfl) ?_
  intro p e s m args below meth c Q X hr hlk hQ
  have hx := X.1
  have hb := X.2.1
  intro H locs ls hw hl
  have hl : lv_has ls 1 [(0, .int a0)] := hl
  unfold f_X3_stirred at h
  refine lv_iload_n hx hb d_X3_stirred_0 rfl (lv_at hl 0 rfl) ?_
  refine r_ldc X wd_838 d_X3_stirred_1 ?_
  refine lv_imul hx hb d_X3_stirred_3 ?_
  refine lv_sipush (v := (12345 : Int32)) hx hb d_X3_stirred_4 (by decide) ?_
  refine lv_iadd hx hb d_X3_stirred_7 ?_
  obtain rfl := Option.some.inj h
  subst hQ
  exact r_iret X hr hlk hw d_X3_stirred_8
abbrev yX3_drawn : MethodName := ⟨"OysterBeds$Games", "drawn", "(II)I"⟩
theorem mwX3_drawn : MW yX3_drawn prog_5_method_9_code 2 (some .int) 2 := ⟨wd_841, wd_23, by decide +kernel⟩
theorem d_X3_drawn_0 : decode prog_5_method_9_code 0 = .ok (.iload_n 1, 1) := by decide +kernel
theorem d_X3_drawn_1 : decode prog_5_method_9_code 1 = .ok (.ifCond .gt 7, 3) := by decide +kernel
theorem d_X3_drawn_4 : decode prog_5_method_9_code 4 = .ok (.iconst 0, 1) := by decide +kernel
theorem d_X3_drawn_5 : decode prog_5_method_9_code 5 = .ok (.goto 9, 3) := by decide +kernel
theorem d_X3_drawn_8 : decode prog_5_method_9_code 8 = .ok (.iload_n 0, 1) := by decide +kernel
theorem d_X3_drawn_9 : decode prog_5_method_9_code 9 = .ok (.bipush 16, 2) := by decide +kernel
theorem d_X3_drawn_11 : decode prog_5_method_9_code 11 = .ok (.iushr, 1) := by decide +kernel
theorem d_X3_drawn_12 : decode prog_5_method_9_code 12 = .ok (.iload_n 1, 1) := by decide +kernel
theorem d_X3_drawn_13 : decode prog_5_method_9_code 13 = .ok (.irem, 1) := by decide +kernel
theorem d_X3_drawn_14 : decode prog_5_method_9_code 14 = .ok (.ireturn, 1) := by decide +kernel
def f_X3_drawn (a0 : Int32) (a1 : Int32) : Option (Int32) := (if 0 < a1 then gd (nz a1) (some ((a0.toUInt32 >>> ((16 : Int32).toUInt32 &&& Int32.toUInt32 31)).toInt32 - (a0.toUInt32 >>> ((16 : Int32).toUInt32 &&& Int32.toUInt32 31)).toInt32 / a1 * a1)) else some (0 : Int32))
theorem c_X3_drawn {l : Launch} {G : gT} {χ σ : St} {a0 : Int32} {a1 : Int32} (hf : FW G) {q : Int32} (h : f_X3_drawn a0 a1 = some q) : Ct l G yX3_drawn prog_5_method_9_code 2 (some .int) 0 0 [.int a0, .int a1] χ σ (some (.int q)) χ σ := by
  refine Ct.of (by decide) (Nat.le_of_ble_eq_true rfl) ?_
  intro p e s m args below meth c Q X hr hlk hQ
  have hx := X.1
  have hb := X.2.1
  intro H locs ls hw hl
  have hl : lv_has ls 2 [(0, .int a0), (1, .int a1)] := hl
  unfold f_X3_drawn at h
  refine lv_iload_n hx hb d_X3_drawn_0 rfl (lv_at hl 1 rfl) ?_
  refine lv_if_gt (tgt := 8) hx hb d_X3_drawn_1 (by decide) (fun hc => ?_) (fun hc => ?_)
  · have h := ite_t h hc
    refine lv_iload_n hx hb d_X3_drawn_8 rfl (lv_at hl 0 rfl) ?_
    refine lv_bipush (v := (16 : Int32)) hx hb d_X3_drawn_9 (by decide) ?_
    refine lv_iushr hx hb d_X3_drawn_11 rfl ?_
    refine lv_iload_n hx hb d_X3_drawn_12 rfl (lv_at hl 1 rfl) ?_
    obtain ⟨hz1, h⟩ := gd_some h
    refine lv_irem hx hb d_X3_drawn_13 (nz_ne hz1) ?_
    obtain rfl := Option.some.inj h
    subst hQ
    exact r_iret X hr hlk hw d_X3_drawn_14
  · have h := ite_f h hc
    refine lv_iconst (v := (0 : Int32)) hx hb d_X3_drawn_4 (by decide) ?_
    refine lv_goto (tgt := 14) hx hb d_X3_drawn_5 (by decide) ?_
    obtain rfl := Option.some.inj h
    subst hQ
    exact r_iret X hr hlk hw d_X3_drawn_14
abbrev yX4_canBe : MethodName := ⟨"OysterBeds$Hearsay", "canBe", "(II)Z"⟩
theorem mwX4_canBe : MW yX4_canBe prog_6_method_2_code 2 (some .boolean) 2 := ⟨wd_726, wd_7, by decide +kernel⟩
theorem d_X4_canBe_0 : decode prog_6_method_2_code 0 = .ok (.iload_n 0, 1) := by decide +kernel
theorem d_X4_canBe_1 : decode prog_6_method_2_code 1 = .ok (.ifCond .lt 28, 3) := by decide +kernel
theorem d_X4_canBe_4 : decode prog_6_method_2_code 4 = .ok (.iload_n 0, 1) := by decide +kernel
theorem d_X4_canBe_5 : decode prog_6_method_2_code 5 = .ok (.getstatic 18, 3) := by decide +kernel
theorem d_X4_canBe_8 : decode prog_6_method_2_code 8 = .ok (.arraylength, 1) := by decide +kernel
theorem d_X4_canBe_9 : decode prog_6_method_2_code 9 = .ok (.if_icmp .ge 20, 3) := by decide +kernel
theorem d_X4_canBe_12 : decode prog_6_method_2_code 12 = .ok (.iload_n 1, 1) := by decide +kernel
theorem d_X4_canBe_13 : decode prog_6_method_2_code 13 = .ok (.ifCond .lt 16, 3) := by decide +kernel
theorem d_X4_canBe_16 : decode prog_6_method_2_code 16 = .ok (.iload_n 1, 1) := by decide +kernel
theorem d_X4_canBe_17 : decode prog_6_method_2_code 17 = .ok (.getstatic 18, 3) := by decide +kernel
theorem d_X4_canBe_20 : decode prog_6_method_2_code 20 = .ok (.iload_n 0, 1) := by decide +kernel
theorem d_X4_canBe_21 : decode prog_6_method_2_code 21 = .ok (.iaload, 1) := by decide +kernel
theorem d_X4_canBe_22 : decode prog_6_method_2_code 22 = .ok (.if_icmp .gt 7, 3) := by decide +kernel
theorem d_X4_canBe_25 : decode prog_6_method_2_code 25 = .ok (.iconst 1, 1) := by decide +kernel
theorem d_X4_canBe_26 : decode prog_6_method_2_code 26 = .ok (.goto 4, 3) := by decide +kernel
theorem d_X4_canBe_29 : decode prog_6_method_2_code 29 = .ok (.iconst 0, 1) := by decide +kernel
theorem d_X4_canBe_30 : decode prog_6_method_2_code 30 = .ok (.ireturn, 1) := by decide +kernel
def f_X4_canBe (a0 : Int32) (a1 : Int32) : Option (Int32) := (if a0 < 0 then some (0 : Int32) else (if (5 : Int32) ≤ a0 then some (0 : Int32) else (if a1 < 0 then some (0 : Int32) else gd (inb a0 5) (some (if (([2, 9, 3, 1, 9] : List Int32).getD a0.toNatClampNeg 0) < a1 then (0 : Int32) else (1 : Int32))))))
theorem c_X4_canBe {l : Launch} {G : gT} {χ σ : St} {a0 : Int32} {a1 : Int32} (hf : FW G) {q : Int32} (h : f_X4_canBe a0 a1 = some q) : Ct l G yX4_canBe prog_6_method_2_code 2 (some .boolean) 0 0 [.int a0, .int a1] χ σ (some (.int q)) χ σ := by
  refine Ct.of (by decide) (Nat.le_of_ble_eq_true rfl) ?_
  intro p e s m args below meth c Q X hr hlk hQ
  have hx := X.1
  have hb := X.2.1
  intro H locs ls hw hl
  have hl : lv_has ls 2 [(0, .int a0), (1, .int a1)] := hl
  unfold f_X4_canBe at h
  refine lv_iload_n hx hb d_X4_canBe_0 rfl (lv_at hl 0 rfl) ?_
  refine lv_if_lt (tgt := 29) hx hb d_X4_canBe_1 (by decide) (fun hc => ?_) (fun hc => ?_)
  · have h := ite_t h hc
    refine lv_iconst (v := (0 : Int32)) hx hb d_X4_canBe_29 (by decide) ?_
    obtain rfl := Option.some.inj h
    subst hQ
    exact r_zret X hr nbz0 hlk hw d_X4_canBe_30
  · have h := ite_f h hc
    refine lv_iload_n hx hb d_X4_canBe_4 rfl (lv_at hl 0 rfl) ?_
    obtain ⟨tt1, hZ_tt1, hT_tt1⟩ := X.2.2.2.2.2.2.2.2.2.1
    refine r_gets X hZ_tt1 hw wd_727 d_X4_canBe_5 ?_
    refine r_aTn X hT_tt1 hw (v := (5 : Int32)) (by decide) d_X4_canBe_8 ?_
    refine lv_icmp_ge (tgt := 29) hx hb d_X4_canBe_9 (by decide) (fun hc => ?_) (fun hc => ?_)
    · have h := ite_t h hc
      refine lv_iconst (v := (0 : Int32)) hx hb d_X4_canBe_29 (by decide) ?_
      obtain rfl := Option.some.inj h
      subst hQ
      exact r_zret X hr nbz0 hlk hw d_X4_canBe_30
    · have h := ite_f h hc
      refine lv_iload_n hx hb d_X4_canBe_12 rfl (lv_at hl 1 rfl) ?_
      refine lv_if_lt (tgt := 29) hx hb d_X4_canBe_13 (by decide) (fun hc => ?_) (fun hc => ?_)
      · have h := ite_t h hc
        refine lv_iconst (v := (0 : Int32)) hx hb d_X4_canBe_29 (by decide) ?_
        obtain rfl := Option.some.inj h
        subst hQ
        exact r_zret X hr nbz0 hlk hw d_X4_canBe_30
      · have h := ite_f h hc
        refine lv_iload_n hx hb d_X4_canBe_16 rfl (lv_at hl 1 rfl) ?_
        obtain ⟨tt2, hZ_tt2, hT_tt2⟩ := X.2.2.2.2.2.2.2.2.2.1
        refine r_gets X hZ_tt2 hw wd_727 d_X4_canBe_17 ?_
        refine lv_iload_n hx hb d_X4_canBe_20 rfl (lv_at hl 0 rfl) ?_
        obtain ⟨hi3, h⟩ := gd_some h
        refine r_aT X hT_tt2 hw hi3 rfl d_X4_canBe_21 ?_
        refine lv_icmp_gt (tgt := 29) hx hb d_X4_canBe_22 (by decide) (fun hc => ?_) (fun hc => ?_)
        · simp only [if_pos hc] at h
          refine lv_iconst (v := (0 : Int32)) hx hb d_X4_canBe_29 (by decide) ?_
          obtain rfl := Option.some.inj h
          subst hQ
          exact r_zret X hr nbz0 hlk hw d_X4_canBe_30
        · simp only [if_neg hc] at h
          refine lv_iconst (v := (1 : Int32)) hx hb d_X4_canBe_25 (by decide) ?_
          refine lv_goto (tgt := 30) hx hb d_X4_canBe_26 (by decide) ?_
          obtain rfl := Option.some.inj h
          subst hQ
          exact r_zret X hr nbz1 hlk hw d_X4_canBe_30
abbrev yX4_hasRoom : MethodName := ⟨"OysterBeds$Hearsay", "hasRoom", "()Z"⟩
theorem mwX4_hasRoom : MW yX4_hasRoom prog_6_method_3_code 1 (some .boolean) 0 := ⟨wd_732, wd_7, by decide +kernel⟩
theorem d_X4_hasRoom_0 : decode prog_6_method_3_code 0 = .ok (.aload_n 0, 1) := by decide +kernel
theorem d_X4_hasRoom_1 : decode prog_6_method_3_code 1 = .ok (.getfield 21, 3) := by decide +kernel
theorem d_X4_hasRoom_4 : decode prog_6_method_3_code 4 = .ok (.bipush 12, 2) := by decide +kernel
theorem d_X4_hasRoom_6 : decode prog_6_method_3_code 6 = .ok (.if_icmp .ge 7, 3) := by decide +kernel
theorem d_X4_hasRoom_9 : decode prog_6_method_3_code 9 = .ok (.iconst 1, 1) := by decide +kernel
theorem d_X4_hasRoom_10 : decode prog_6_method_3_code 10 = .ok (.goto 4, 3) := by decide +kernel
theorem d_X4_hasRoom_13 : decode prog_6_method_3_code 13 = .ok (.iconst 0, 1) := by decide +kernel
theorem d_X4_hasRoom_14 : decode prog_6_method_3_code 14 = .ok (.ireturn, 1) := by decide +kernel
def f_X4_hasRoom (χ : St) : Option (Int32) := some (if (12 : Int32) ≤ (cF χ 13 2) then (0 : Int32) else (1 : Int32))
theorem c_X4_hasRoom {l : Launch} {G : gT} {χ σ : St} (hf : FW G) {q : Int32} (h : f_X4_hasRoom χ = some q) : Ct l G yX4_hasRoom prog_6_method_3_code 1 (some .boolean) 0 0 [.ref (ga G 13)] χ σ (some (.int q)) χ σ := by
  refine Ct.of (by decide) (Nat.le_of_ble_eq_true rfl) ?_
  intro p e s m args below meth c Q X hr hlk hQ
  have hx := X.1
  have hb := X.2.1
  intro H locs ls hw hl
  have hl : lv_has ls 1 [(0, .ref (ga G 13))] := hl
  unfold f_X4_hasRoom at h
  refine lv_aload_n hx hb d_X4_hasRoom_0 rfl (lv_at hl 0 rfl) ?_
  refine r_geti (j := 2) X hw ct1 (o_13 hf) (Nat.le_of_ble_eq_true rfl) rfl (Nat.le_of_ble_eq_true rfl) wd_174 d_X4_hasRoom_1 ?_
  refine lv_bipush (v := (12 : Int32)) hx hb d_X4_hasRoom_4 (by decide) ?_
  refine lv_icmp_ge (tgt := 13) hx hb d_X4_hasRoom_6 (by decide) (fun hc => ?_) (fun hc => ?_)
  · simp only [if_pos hc] at h
    refine lv_iconst (v := (0 : Int32)) hx hb d_X4_hasRoom_13 (by decide) ?_
    obtain rfl := Option.some.inj h
    subst hQ
    exact r_zret X hr nbz0 hlk hw d_X4_hasRoom_14
  · simp only [if_neg hc] at h
    refine lv_iconst (v := (1 : Int32)) hx hb d_X4_hasRoom_9 (by decide) ?_
    refine lv_goto (tgt := 14) hx hb d_X4_hasRoom_10 (by decide) ?_
    obtain rfl := Option.some.inj h
    subst hQ
    exact r_zret X hr nbz1 hlk hw d_X4_hasRoom_14
abbrev yX4_note : MethodName := ⟨"OysterBeds$Hearsay", "note", "(II)I"⟩
theorem mwX4_note : MW yX4_note prog_6_method_4_code 3 (some .int) 2 := ⟨wd_736, wd_7, by decide +kernel⟩
theorem d_X4_note_0 : decode prog_6_method_4_code 0 = .ok (.aload_n 0, 1) := by decide +kernel
theorem d_X4_note_1 : decode prog_6_method_4_code 1 = .ok (.invokevirtual 25, 3) := by decide +kernel
theorem d_X4_note_4 : decode prog_6_method_4_code 4 = .ok (.ifCond .eq 33, 3) := by decide +kernel
theorem d_X4_note_7 : decode prog_6_method_4_code 7 = .ok (.aload_n 0, 1) := by decide +kernel
theorem d_X4_note_8 : decode prog_6_method_4_code 8 = .ok (.getfield 9, 3) := by decide +kernel
theorem d_X4_note_11 : decode prog_6_method_4_code 11 = .ok (.aload_n 0, 1) := by decide +kernel
theorem d_X4_note_12 : decode prog_6_method_4_code 12 = .ok (.getfield 21, 3) := by decide +kernel
theorem d_X4_note_15 : decode prog_6_method_4_code 15 = .ok (.iload_n 1, 1) := by decide +kernel
theorem d_X4_note_16 : decode prog_6_method_4_code 16 = .ok (.iastore, 1) := by decide +kernel
theorem d_X4_note_17 : decode prog_6_method_4_code 17 = .ok (.aload_n 0, 1) := by decide +kernel
theorem d_X4_note_18 : decode prog_6_method_4_code 18 = .ok (.getfield 15, 3) := by decide +kernel
theorem d_X4_note_21 : decode prog_6_method_4_code 21 = .ok (.aload_n 0, 1) := by decide +kernel
theorem d_X4_note_22 : decode prog_6_method_4_code 22 = .ok (.getfield 21, 3) := by decide +kernel
theorem d_X4_note_25 : decode prog_6_method_4_code 25 = .ok (.iload_n 2, 1) := by decide +kernel
theorem d_X4_note_26 : decode prog_6_method_4_code 26 = .ok (.iastore, 1) := by decide +kernel
theorem d_X4_note_27 : decode prog_6_method_4_code 27 = .ok (.aload_n 0, 1) := by decide +kernel
theorem d_X4_note_28 : decode prog_6_method_4_code 28 = .ok (.dup, 1) := by decide +kernel
theorem d_X4_note_29 : decode prog_6_method_4_code 29 = .ok (.getfield 21, 3) := by decide +kernel
theorem d_X4_note_32 : decode prog_6_method_4_code 32 = .ok (.iconst 1, 1) := by decide +kernel
theorem d_X4_note_33 : decode prog_6_method_4_code 33 = .ok (.iadd, 1) := by decide +kernel
theorem d_X4_note_34 : decode prog_6_method_4_code 34 = .ok (.putfield 21, 3) := by decide +kernel
theorem d_X4_note_37 : decode prog_6_method_4_code 37 = .ok (.aload_n 0, 1) := by decide +kernel
theorem d_X4_note_38 : decode prog_6_method_4_code 38 = .ok (.getfield 21, 3) := by decide +kernel
theorem d_X4_note_41 : decode prog_6_method_4_code 41 = .ok (.ireturn, 1) := by decide +kernel
def f_X4_note_j37 (τ : St) : Option (Int32 × St) := some ((cF τ 13 2), τ)
def f_X4_note (χ : St) (a1 : Int32) (a2 : Int32) : Option (Int32 × St) := (f_X4_hasRoom χ).bind (fun q1 => (if q1 = 0 then f_X4_note_j37 χ else gd (inb (cF χ 13 2) 12) (gd (inb (cF (sA χ 14 (cF χ 13 2).toNatClampNeg a1) 13 2) 12) (f_X4_note_j37 (sF (sA (sA χ 14 (cF χ 13 2).toNatClampNeg a1) 15 (cF (sA χ 14 (cF χ 13 2).toNatClampNeg a1) 13 2).toNatClampNeg a2) 13 2 ((cF (sA (sA χ 14 (cF χ 13 2).toNatClampNeg a1) 15 (cF (sA χ 14 (cF χ 13 2).toNatClampNeg a1) 13 2).toNatClampNeg a2) 13 2) + (1 : Int32)))))))
theorem c_X4_note {l : Launch} {G : gT} {χ σ : St} {a1 : Int32} {a2 : Int32} (hf : FW G) {q : Int32 × St} (h : f_X4_note χ a1 a2 = some q) : Ct l G yX4_note prog_6_method_4_code 3 (some .int) 1 20 [.ref (ga G 13), .int a1, .int a2] χ σ (some (.int q.1)) q.2 σ := by
  refine Ct.of (by decide) (Nat.le_of_ble_eq_true rfl) ?_
  intro p e s m args below meth c Q X hr hlk hQ
  have hx := X.1
  have hb := X.2.1
  have j37 : ∀ (τ : St), f_X4_note_j37 τ = some q → Wat p l e (rmk 1 20) s m args below meth c Q G 3 37 [] [(0, .ref (ga G 13))] τ σ := by
    intro τ h H locs ls hw hl
    unfold f_X4_note_j37 at h
    refine lv_aload_n hx hb d_X4_note_37 rfl (lv_at hl 0 rfl) ?_
    refine r_geti (j := 2) X hw ct1 (o_13 hf) (Nat.le_of_ble_eq_true rfl) rfl (Nat.le_of_ble_eq_true rfl) wd_174 d_X4_note_38 ?_
    obtain rfl := Option.some.inj h
    subst hQ
    exact r_iret X hr hlk hw d_X4_note_41
  intro H locs ls hw hl
  have hl : lv_has ls 3 [(0, .ref (ga G 13)), (1, .int a1), (2, .int a2)] := hl
  unfold f_X4_note at h
  refine lv_aload_n hx hb d_X4_note_0 rfl (lv_at hl 0 rfl) ?_
  obtain ⟨q1, e2, h⟩ := bd_some h
  refine r_callV (As := []) (rest := []) (st' := [.int q1]) X hw hl mwX4_hasRoom wd_730 wd_731 wd_737 (c_X4_hasRoom hf e2) (r_recv X hw ct1 (o_13 hf)) rfl ⟨Nat.le_of_ble_eq_true rfl, Nat.le_of_ble_eq_true rfl⟩ ⟨Nat.le_refl _, Nat.le_refl _⟩ rfl rfl (Nat.le_of_ble_eq_true rfl) d_X4_note_1 (fun H locs hw => ?_)
  refine lv_if_eq (tgt := 37) hx hb d_X4_note_4 (by decide) (fun hc => ?_) (fun hc => ?_)
  · have h := ite_t h hc
    exact j37 χ h _ _ _ hw (lv_sub hl [0] rfl)
  · have h := ite_f h hc
    refine lv_aload_n hx hb d_X4_note_7 rfl (lv_at hl 0 rfl) ?_
    refine r_getr (j := 0) X hw ct1 (o_13 hf) rfl (Nat.le_of_ble_eq_true rfl) (q := 14) rfl wd_172 d_X4_note_8 ?_
    refine lv_aload_n hx hb d_X4_note_11 rfl (lv_at hl 0 rfl) ?_
    refine r_geti (j := 2) X hw ct1 (o_13 hf) (Nat.le_of_ble_eq_true rfl) rfl (Nat.le_of_ble_eq_true rfl) wd_174 d_X4_note_12 ?_
    refine lv_iload_n hx hb d_X4_note_15 rfl (lv_at hl 1 rfl) ?_
    obtain ⟨hi3, h⟩ := gd_some h
    refine r_iast X hw (o_14 hf) (Nat.le_of_ble_eq_true rfl) hi3 d_X4_note_16 (fun H locs hw => ?_)
    refine lv_aload_n hx hb d_X4_note_17 rfl (lv_at hl 0 rfl) ?_
    refine r_getr (j := 1) X hw ct1 (o_13 hf) rfl (Nat.le_of_ble_eq_true rfl) (q := 15) rfl wd_173 d_X4_note_18 ?_
    refine lv_aload_n hx hb d_X4_note_21 rfl (lv_at hl 0 rfl) ?_
    refine r_geti (j := 2) X hw ct1 (o_13 hf) (Nat.le_of_ble_eq_true rfl) rfl (Nat.le_of_ble_eq_true rfl) wd_174 d_X4_note_22 ?_
    refine lv_iload_n hx hb d_X4_note_25 rfl (lv_at hl 2 rfl) ?_
    obtain ⟨hi4, h⟩ := gd_some h
    refine r_iast X hw (o_15 hf) (Nat.le_of_ble_eq_true rfl) hi4 d_X4_note_26 (fun H locs hw => ?_)
    refine lv_aload_n hx hb d_X4_note_27 rfl (lv_at hl 0 rfl) ?_
    refine lv_dup hx hb d_X4_note_28 rfl ?_
    refine r_geti (j := 2) X hw ct1 (o_13 hf) (Nat.le_of_ble_eq_true rfl) rfl (Nat.le_of_ble_eq_true rfl) wd_174 d_X4_note_29 ?_
    refine lv_iconst (v := (1 : Int32)) hx hb d_X4_note_32 (by decide) ?_
    refine lv_iadd hx hb d_X4_note_33 ?_
    refine r_puti (j := 2) X hw ct1 (o_13 hf) (Nat.le_of_ble_eq_true rfl) rfl (Nat.le_of_ble_eq_true rfl) rfl rfl rfl wd_174 d_X4_note_34 (fun H locs hw => ?_)
    exact j37 (sF (sA (sA χ 14 (cF χ 13 2).toNatClampNeg a1) 15 (cF (sA χ 14 (cF χ 13 2).toNatClampNeg a1) 13 2).toNatClampNeg a2) 13 2 ((cF (sA (sA χ 14 (cF χ 13 2).toNatClampNeg a1) 15 (cF (sA χ 14 (cF χ 13 2).toNatClampNeg a1) 13 2).toNatClampNeg a2) 13 2) + (1 : Int32))) h _ _ _ hw (lv_sub hl [0] rfl)
abbrev yX4_clear : MethodName := ⟨"OysterBeds$Hearsay", "clear", "()I"⟩
theorem mwX4_clear : MW yX4_clear prog_6_method_5_code 2 (some .int) 0 := ⟨wd_745, wd_7, by decide +kernel⟩
theorem d_X4_clear_0 : decode prog_6_method_5_code 0 = .ok (.aload_n 0, 1) := by decide +kernel
theorem d_X4_clear_1 : decode prog_6_method_5_code 1 = .ok (.getfield 21, 3) := by decide +kernel
theorem d_X4_clear_4 : decode prog_6_method_5_code 4 = .ok (.istore_n 1, 1) := by decide +kernel
theorem d_X4_clear_5 : decode prog_6_method_5_code 5 = .ok (.aload_n 0, 1) := by decide +kernel
theorem d_X4_clear_6 : decode prog_6_method_5_code 6 = .ok (.iconst 0, 1) := by decide +kernel
theorem d_X4_clear_7 : decode prog_6_method_5_code 7 = .ok (.putfield 21, 3) := by decide +kernel
theorem d_X4_clear_10 : decode prog_6_method_5_code 10 = .ok (.iload_n 1, 1) := by decide +kernel
theorem d_X4_clear_11 : decode prog_6_method_5_code 11 = .ok (.ireturn, 1) := by decide +kernel
def f_X4_clear (χ : St) : Option (Int32 × St) := some ((cF χ 13 2), (sF χ 13 2 (0 : Int32)))
theorem c_X4_clear {l : Launch} {G : gT} {χ σ : St} (hf : FW G) {q : Int32 × St} (h : f_X4_clear χ = some q) : Ct l G yX4_clear prog_6_method_5_code 2 (some .int) 0 0 [.ref (ga G 13)] χ σ (some (.int q.1)) q.2 σ := by
  refine Ct.of (by decide) (Nat.le_of_ble_eq_true rfl) ?_
  intro p e s m args below meth c Q X hr hlk hQ
  have hx := X.1
  have hb := X.2.1
  intro H locs ls hw hl
  have hl : lv_has ls 2 [(0, .ref (ga G 13))] := hl
  unfold f_X4_clear at h
  refine lv_aload_n hx hb d_X4_clear_0 rfl (lv_at hl 0 rfl) ?_
  refine r_geti (j := 2) X hw ct1 (o_13 hf) (Nat.le_of_ble_eq_true rfl) rfl (Nat.le_of_ble_eq_true rfl) wd_174 d_X4_clear_1 ?_
  refine lv_istore_n (lv' := [(1, .int (cF χ 13 2)), (0, .ref (ga G 13))]) hx hb d_X4_clear_4 rfl hl (Nat.le_of_ble_eq_true rfl) rfl (fun ls hl => ?_)
  refine lv_aload_n hx hb d_X4_clear_5 rfl (lv_at hl 1 rfl) ?_
  refine lv_iconst (v := (0 : Int32)) hx hb d_X4_clear_6 (by decide) ?_
  refine r_puti (j := 2) X hw ct1 (o_13 hf) (Nat.le_of_ble_eq_true rfl) rfl (Nat.le_of_ble_eq_true rfl) rfl rfl rfl wd_174 d_X4_clear_7 (fun H locs hw => ?_)
  refine lv_iload_n hx hb d_X4_clear_10 rfl (lv_at hl 0 rfl) ?_
  obtain rfl := Option.some.inj h
  subst hQ
  exact r_iret X hr hlk hw d_X4_clear_11
abbrev yX4_isSo : MethodName := ⟨"OysterBeds$Hearsay", "isSo", "(LOysterBeds$Bed;III)Z"⟩
theorem mwX4_isSo : MW yX4_isSo prog_6_method_8_code 4 (some .boolean) 4 := ⟨wd_760, wd_7, by decide +kernel⟩
theorem d_X4_isSo_0 : decode prog_6_method_8_code 0 = .ok (.iload_n 2, 1) := by decide +kernel
theorem d_X4_isSo_1 : decode prog_6_method_8_code 1 = .ok (.tableswitch 136 0 4 #[35, 51, 67, 87, 120], 35) := by decide +kernel
theorem d_X4_isSo_36 : decode prog_6_method_8_code 36 = .ok (.aload_n 0, 1) := by decide +kernel
theorem d_X4_isSo_37 : decode prog_6_method_8_code 37 = .ok (.getfield 44, 3) := by decide +kernel
theorem d_X4_isSo_40 : decode prog_6_method_8_code 40 = .ok (.iload_n 1, 1) := by decide +kernel
theorem d_X4_isSo_41 : decode prog_6_method_8_code 41 = .ok (.iaload, 1) := by decide +kernel
theorem d_X4_isSo_42 : decode prog_6_method_8_code 42 = .ok (.iload_n 3, 1) := by decide +kernel
theorem d_X4_isSo_43 : decode prog_6_method_8_code 43 = .ok (.if_icmp .ne 7, 3) := by decide +kernel
theorem d_X4_isSo_46 : decode prog_6_method_8_code 46 = .ok (.iconst 1, 1) := by decide +kernel
theorem d_X4_isSo_47 : decode prog_6_method_8_code 47 = .ok (.goto 4, 3) := by decide +kernel
theorem d_X4_isSo_50 : decode prog_6_method_8_code 50 = .ok (.iconst 0, 1) := by decide +kernel
theorem d_X4_isSo_51 : decode prog_6_method_8_code 51 = .ok (.ireturn, 1) := by decide +kernel
theorem d_X4_isSo_52 : decode prog_6_method_8_code 52 = .ok (.aload_n 0, 1) := by decide +kernel
theorem d_X4_isSo_53 : decode prog_6_method_8_code 53 = .ok (.getfield 47, 3) := by decide +kernel
theorem d_X4_isSo_56 : decode prog_6_method_8_code 56 = .ok (.iload_n 1, 1) := by decide +kernel
theorem d_X4_isSo_57 : decode prog_6_method_8_code 57 = .ok (.iaload, 1) := by decide +kernel
theorem d_X4_isSo_58 : decode prog_6_method_8_code 58 = .ok (.iload_n 3, 1) := by decide +kernel
theorem d_X4_isSo_59 : decode prog_6_method_8_code 59 = .ok (.if_icmp .lt 7, 3) := by decide +kernel
theorem d_X4_isSo_62 : decode prog_6_method_8_code 62 = .ok (.iconst 1, 1) := by decide +kernel
theorem d_X4_isSo_63 : decode prog_6_method_8_code 63 = .ok (.goto 4, 3) := by decide +kernel
theorem d_X4_isSo_66 : decode prog_6_method_8_code 66 = .ok (.iconst 0, 1) := by decide +kernel
theorem d_X4_isSo_67 : decode prog_6_method_8_code 67 = .ok (.ireturn, 1) := by decide +kernel
theorem d_X4_isSo_68 : decode prog_6_method_8_code 68 = .ok (.aload_n 0, 1) := by decide +kernel
theorem d_X4_isSo_69 : decode prog_6_method_8_code 69 = .ok (.getfield 50, 3) := by decide +kernel
theorem d_X4_isSo_72 : decode prog_6_method_8_code 72 = .ok (.iload_n 1, 1) := by decide +kernel
theorem d_X4_isSo_73 : decode prog_6_method_8_code 73 = .ok (.iaload, 1) := by decide +kernel
theorem d_X4_isSo_74 : decode prog_6_method_8_code 74 = .ok (.iload_n 3, 1) := by decide +kernel
theorem d_X4_isSo_75 : decode prog_6_method_8_code 75 = .ok (.ishr, 1) := by decide +kernel
theorem d_X4_isSo_76 : decode prog_6_method_8_code 76 = .ok (.iconst 1, 1) := by decide +kernel
theorem d_X4_isSo_77 : decode prog_6_method_8_code 77 = .ok (.iand, 1) := by decide +kernel
theorem d_X4_isSo_78 : decode prog_6_method_8_code 78 = .ok (.iconst 1, 1) := by decide +kernel
theorem d_X4_isSo_79 : decode prog_6_method_8_code 79 = .ok (.if_icmp .ne 7, 3) := by decide +kernel
theorem d_X4_isSo_82 : decode prog_6_method_8_code 82 = .ok (.iconst 1, 1) := by decide +kernel
theorem d_X4_isSo_83 : decode prog_6_method_8_code 83 = .ok (.goto 4, 3) := by decide +kernel
theorem d_X4_isSo_86 : decode prog_6_method_8_code 86 = .ok (.iconst 0, 1) := by decide +kernel
theorem d_X4_isSo_87 : decode prog_6_method_8_code 87 = .ok (.ireturn, 1) := by decide +kernel
theorem d_X4_isSo_88 : decode prog_6_method_8_code 88 = .ok (.aload_n 0, 1) := by decide +kernel
theorem d_X4_isSo_89 : decode prog_6_method_8_code 89 = .ok (.getfield 53, 3) := by decide +kernel
theorem d_X4_isSo_92 : decode prog_6_method_8_code 92 = .ok (.iload_n 1, 1) := by decide +kernel
theorem d_X4_isSo_93 : decode prog_6_method_8_code 93 = .ok (.iaload, 1) := by decide +kernel
theorem d_X4_isSo_94 : decode prog_6_method_8_code 94 = .ok (.ifCond .ne 7, 3) := by decide +kernel
theorem d_X4_isSo_97 : decode prog_6_method_8_code 97 = .ok (.iconst 1, 1) := by decide +kernel
theorem d_X4_isSo_98 : decode prog_6_method_8_code 98 = .ok (.goto 4, 3) := by decide +kernel
theorem d_X4_isSo_101 : decode prog_6_method_8_code 101 = .ok (.iconst 0, 1) := by decide +kernel
theorem d_X4_isSo_102 : decode prog_6_method_8_code 102 = .ok (.iload_n 3, 1) := by decide +kernel
theorem d_X4_isSo_103 : decode prog_6_method_8_code 103 = .ok (.iconst 1, 1) := by decide +kernel
theorem d_X4_isSo_104 : decode prog_6_method_8_code 104 = .ok (.if_icmp .ne 7, 3) := by decide +kernel
theorem d_X4_isSo_107 : decode prog_6_method_8_code 107 = .ok (.iconst 1, 1) := by decide +kernel
theorem d_X4_isSo_108 : decode prog_6_method_8_code 108 = .ok (.goto 4, 3) := by decide +kernel
theorem d_X4_isSo_111 : decode prog_6_method_8_code 111 = .ok (.iconst 0, 1) := by decide +kernel
theorem d_X4_isSo_112 : decode prog_6_method_8_code 112 = .ok (.if_icmp .ne 7, 3) := by decide +kernel
theorem d_X4_isSo_115 : decode prog_6_method_8_code 115 = .ok (.iconst 1, 1) := by decide +kernel
theorem d_X4_isSo_116 : decode prog_6_method_8_code 116 = .ok (.goto 4, 3) := by decide +kernel
theorem d_X4_isSo_119 : decode prog_6_method_8_code 119 = .ok (.iconst 0, 1) := by decide +kernel
theorem d_X4_isSo_120 : decode prog_6_method_8_code 120 = .ok (.ireturn, 1) := by decide +kernel
theorem d_X4_isSo_121 : decode prog_6_method_8_code 121 = .ok (.aload_n 0, 1) := by decide +kernel
theorem d_X4_isSo_122 : decode prog_6_method_8_code 122 = .ok (.getfield 56, 3) := by decide +kernel
theorem d_X4_isSo_125 : decode prog_6_method_8_code 125 = .ok (.iload_n 1, 1) := by decide +kernel
theorem d_X4_isSo_126 : decode prog_6_method_8_code 126 = .ok (.iaload, 1) := by decide +kernel
theorem d_X4_isSo_127 : decode prog_6_method_8_code 127 = .ok (.iload_n 3, 1) := by decide +kernel
theorem d_X4_isSo_128 : decode prog_6_method_8_code 128 = .ok (.if_icmp .lt 7, 3) := by decide +kernel
theorem d_X4_isSo_131 : decode prog_6_method_8_code 131 = .ok (.iconst 1, 1) := by decide +kernel
theorem d_X4_isSo_132 : decode prog_6_method_8_code 132 = .ok (.goto 4, 3) := by decide +kernel
theorem d_X4_isSo_135 : decode prog_6_method_8_code 135 = .ok (.iconst 0, 1) := by decide +kernel
theorem d_X4_isSo_136 : decode prog_6_method_8_code 136 = .ok (.ireturn, 1) := by decide +kernel
theorem d_X4_isSo_137 : decode prog_6_method_8_code 137 = .ok (.iconst 0, 1) := by decide +kernel
theorem d_X4_isSo_138 : decode prog_6_method_8_code 138 = .ok (.ireturn, 1) := by decide +kernel
def f_X4_isSo_j112 (b0 : Nat) (χ : St) (s0 : Int32) (s1 : Int32) : Option (Int32) := some (if s0 = s1 then (1 : Int32) else (0 : Int32))
def f_X4_isSo_j102 (b0 : Nat) (χ : St) (x3 : Int32) (s0 : Int32) : Option (Int32) := f_X4_isSo_j112 b0 χ s0 (if x3 = (1 : Int32) then (1 : Int32) else (0 : Int32))
def f_X4_isSo (χ : St) (b0 : Nat) (a1 : Int32) (a2 : Int32) (a3 : Int32) : Option (Int32) := (if a2 = (0 : Int32) then gd (inb a1 8) (some (if (cA χ (b0 + 1) a1.toNatClampNeg) = a3 then (1 : Int32) else (0 : Int32))) else if a2 = (1 : Int32) then gd (inb a1 8) (some (if (cA χ (b0 + 2) a1.toNatClampNeg) < a3 then (0 : Int32) else (1 : Int32))) else if a2 = (2 : Int32) then gd (inb a1 8) (some (if (((cA χ (b0 + 3) a1.toNatClampNeg) >>> (a3 &&& 31)) &&& (1 : Int32)) = (1 : Int32) then (1 : Int32) else (0 : Int32))) else if a2 = (3 : Int32) then gd (inb a1 8) (f_X4_isSo_j102 b0 χ a3 (if (cA χ (b0 + 4) a1.toNatClampNeg) = 0 then (1 : Int32) else (0 : Int32))) else if a2 = (4 : Int32) then gd (inb a1 8) (some (if (cA χ (b0 + 5) a1.toNatClampNeg) < a3 then (0 : Int32) else (1 : Int32))) else some (0 : Int32))
theorem c_X4_isSo {l : Launch} {G : gT} {χ σ : St} {b0 : Nat} {a1 : Int32} {a2 : Int32} {a3 : Int32} (hf : FW G) (hb_b0 : isBed b0 = true) {q : Int32} (h : f_X4_isSo χ b0 a1 a2 a3 = some q) : Ct l G yX4_isSo prog_6_method_8_code 4 (some .boolean) 0 0 [.ref (ga G b0), .int a1, .int a2, .int a3] χ σ (some (.int q)) χ σ := by
  obtain ⟨ob0_b0, ob1_b0, ob2_b0, ob3_b0, ob4_b0, ob5_b0, lb_b0, -, -⟩ := bed_at hf hb_b0
  have lb0_b0 : b0 < 300 := by omega
  have lb1_b0 : b0 + 1 < 300 := by omega
  have lb2_b0 : b0 + 2 < 300 := by omega
  have lb3_b0 : b0 + 3 < 300 := by omega
  have lb4_b0 : b0 + 4 < 300 := by omega
  have lb5_b0 : b0 + 5 < 300 := by omega
  refine Ct.of (by decide) (Nat.le_of_ble_eq_true rfl) ?_
  intro p e s m args below meth c Q X hr hlk hQ
  have hx := X.1
  have hb := X.2.1
  have j112 : ∀ (s0 : Int32) (s1 : Int32), f_X4_isSo_j112 b0 χ s0 s1 = some q → Wat p l e (rmk 0 0) s m args below meth c Q G 4 112 [.int s1, .int s0] [] χ σ := by
    intro s0 s1 h H locs ls hw hl
    unfold f_X4_isSo_j112 at h
    refine lv_icmp_ne (tgt := 119) hx hb d_X4_isSo_112 (by decide) (fun hc => ?_) (fun hc => ?_)
    · simp only [if_neg hc] at h
      refine lv_iconst (v := (0 : Int32)) hx hb d_X4_isSo_119 (by decide) ?_
      obtain rfl := Option.some.inj h
      subst hQ
      exact r_zret X hr nbz0 hlk hw d_X4_isSo_120
    · simp only [if_pos hc] at h
      refine lv_iconst (v := (1 : Int32)) hx hb d_X4_isSo_115 (by decide) ?_
      refine lv_goto (tgt := 120) hx hb d_X4_isSo_116 (by decide) ?_
      obtain rfl := Option.some.inj h
      subst hQ
      exact r_zret X hr nbz1 hlk hw d_X4_isSo_120
  have j102 : ∀ (x3 : Int32) (s0 : Int32), f_X4_isSo_j102 b0 χ x3 s0 = some q → Wat p l e (rmk 0 0) s m args below meth c Q G 4 102 [.int s0] [(3, .int x3)] χ σ := by
    intro x3 s0 h H locs ls hw hl
    unfold f_X4_isSo_j102 at h
    refine lv_iload_n hx hb d_X4_isSo_102 rfl (lv_at hl 0 rfl) ?_
    refine lv_iconst (v := (1 : Int32)) hx hb d_X4_isSo_103 (by decide) ?_
    refine lv_icmp_ne (tgt := 111) hx hb d_X4_isSo_104 (by decide) (fun hc => ?_) (fun hc => ?_)
    · simp only [if_neg hc] at h
      refine lv_iconst (v := (0 : Int32)) hx hb d_X4_isSo_111 (by decide) ?_
      exact j112 s0 (0 : Int32) h _ _ _ hw (lv_sub hl [] rfl)
    · simp only [if_pos hc] at h
      refine lv_iconst (v := (1 : Int32)) hx hb d_X4_isSo_107 (by decide) ?_
      refine lv_goto (tgt := 112) hx hb d_X4_isSo_108 (by decide) ?_
      exact j112 s0 (1 : Int32) h _ _ _ hw (lv_sub hl [] rfl)
  intro H locs ls hw hl
  have hl : lv_has ls 4 [(0, .ref (ga G b0)), (1, .int a1), (2, .int a2), (3, .int a3)] := hl
  unfold f_X4_isSo at h
  refine lv_iload_n hx hb d_X4_isSo_0 rfl (lv_at hl 2 rfl) ?_
  by_cases hc0 : a2 = (0 : Int32)
  · have h := ite_t h hc0
    refine lv_tableIn (tgt := 36) hx hb d_X4_isSo_1 (by rw [hc0]; decide) (by rw [hc0]; decide) (by rw [hc0]; rfl) (by decide) ?_
    refine lv_aload_n hx hb d_X4_isSo_36 rfl (lv_at hl 0 rfl) ?_
    refine r_getrN (j := 0) X hw ct0 ob0_b0 rfl (Nat.le_of_ble_eq_true rfl) (q := (b0 + 1)) (rt_bed hb_b0) nw_8 d_X4_isSo_37 ?_
    refine lv_iload_n hx hb d_X4_isSo_40 rfl (lv_at hl 1 rfl) ?_
    obtain ⟨hi1, h⟩ := gd_some h
    refine r_iald X hw ob1_b0 lb1_b0 hi1 d_X4_isSo_41 ?_
    refine lv_iload_n hx hb d_X4_isSo_42 rfl (lv_at hl 3 rfl) ?_
    refine lv_icmp_ne (tgt := 50) hx hb d_X4_isSo_43 (by decide) (fun hc => ?_) (fun hc => ?_)
    · simp only [if_neg hc] at h
      refine lv_iconst (v := (0 : Int32)) hx hb d_X4_isSo_50 (by decide) ?_
      obtain rfl := Option.some.inj h
      subst hQ
      exact r_zret X hr nbz0 hlk hw d_X4_isSo_51
    · simp only [if_pos hc] at h
      refine lv_iconst (v := (1 : Int32)) hx hb d_X4_isSo_46 (by decide) ?_
      refine lv_goto (tgt := 51) hx hb d_X4_isSo_47 (by decide) ?_
      obtain rfl := Option.some.inj h
      subst hQ
      exact r_zret X hr nbz1 hlk hw d_X4_isSo_51
  have h := ite_f h hc0
  by_cases hc1 : a2 = (1 : Int32)
  · have h := ite_t h hc1
    refine lv_tableIn (tgt := 52) hx hb d_X4_isSo_1 (by rw [hc1]; decide) (by rw [hc1]; decide) (by rw [hc1]; rfl) (by decide) ?_
    refine lv_aload_n hx hb d_X4_isSo_52 rfl (lv_at hl 0 rfl) ?_
    refine r_getrN (j := 1) X hw ct0 ob0_b0 rfl (Nat.le_of_ble_eq_true rfl) (q := (b0 + 2)) (rt_bed hb_b0) nw_12 d_X4_isSo_53 ?_
    refine lv_iload_n hx hb d_X4_isSo_56 rfl (lv_at hl 1 rfl) ?_
    obtain ⟨hi2, h⟩ := gd_some h
    refine r_iald X hw ob2_b0 lb2_b0 hi2 d_X4_isSo_57 ?_
    refine lv_iload_n hx hb d_X4_isSo_58 rfl (lv_at hl 3 rfl) ?_
    refine lv_icmp_lt (tgt := 66) hx hb d_X4_isSo_59 (by decide) (fun hc => ?_) (fun hc => ?_)
    · simp only [if_pos hc] at h
      refine lv_iconst (v := (0 : Int32)) hx hb d_X4_isSo_66 (by decide) ?_
      obtain rfl := Option.some.inj h
      subst hQ
      exact r_zret X hr nbz0 hlk hw d_X4_isSo_67
    · simp only [if_neg hc] at h
      refine lv_iconst (v := (1 : Int32)) hx hb d_X4_isSo_62 (by decide) ?_
      refine lv_goto (tgt := 67) hx hb d_X4_isSo_63 (by decide) ?_
      obtain rfl := Option.some.inj h
      subst hQ
      exact r_zret X hr nbz1 hlk hw d_X4_isSo_67
  have h := ite_f h hc1
  by_cases hc2 : a2 = (2 : Int32)
  · have h := ite_t h hc2
    refine lv_tableIn (tgt := 68) hx hb d_X4_isSo_1 (by rw [hc2]; decide) (by rw [hc2]; decide) (by rw [hc2]; rfl) (by decide) ?_
    refine lv_aload_n hx hb d_X4_isSo_68 rfl (lv_at hl 0 rfl) ?_
    refine r_getrN (j := 2) X hw ct0 ob0_b0 rfl (Nat.le_of_ble_eq_true rfl) (q := (b0 + 3)) (rt_bed hb_b0) nw_16 d_X4_isSo_69 ?_
    refine lv_iload_n hx hb d_X4_isSo_72 rfl (lv_at hl 1 rfl) ?_
    obtain ⟨hi3, h⟩ := gd_some h
    refine r_iald X hw ob3_b0 lb3_b0 hi3 d_X4_isSo_73 ?_
    refine lv_iload_n hx hb d_X4_isSo_74 rfl (lv_at hl 3 rfl) ?_
    refine lv_ishr hx hb d_X4_isSo_75 ?_
    refine lv_iconst (v := (1 : Int32)) hx hb d_X4_isSo_76 (by decide) ?_
    refine lv_iand hx hb d_X4_isSo_77 ?_
    refine lv_iconst (v := (1 : Int32)) hx hb d_X4_isSo_78 (by decide) ?_
    refine lv_icmp_ne (tgt := 86) hx hb d_X4_isSo_79 (by decide) (fun hc => ?_) (fun hc => ?_)
    · simp only [if_neg hc] at h
      refine lv_iconst (v := (0 : Int32)) hx hb d_X4_isSo_86 (by decide) ?_
      obtain rfl := Option.some.inj h
      subst hQ
      exact r_zret X hr nbz0 hlk hw d_X4_isSo_87
    · simp only [if_pos hc] at h
      refine lv_iconst (v := (1 : Int32)) hx hb d_X4_isSo_82 (by decide) ?_
      refine lv_goto (tgt := 87) hx hb d_X4_isSo_83 (by decide) ?_
      obtain rfl := Option.some.inj h
      subst hQ
      exact r_zret X hr nbz1 hlk hw d_X4_isSo_87
  have h := ite_f h hc2
  by_cases hc3 : a2 = (3 : Int32)
  · have h := ite_t h hc3
    refine lv_tableIn (tgt := 88) hx hb d_X4_isSo_1 (by rw [hc3]; decide) (by rw [hc3]; decide) (by rw [hc3]; rfl) (by decide) ?_
    refine lv_aload_n hx hb d_X4_isSo_88 rfl (lv_at hl 0 rfl) ?_
    refine r_getrN (j := 3) X hw ct0 ob0_b0 rfl (Nat.le_of_ble_eq_true rfl) (q := (b0 + 4)) (rt_bed hb_b0) nw_18 d_X4_isSo_89 ?_
    refine lv_iload_n hx hb d_X4_isSo_92 rfl (lv_at hl 1 rfl) ?_
    obtain ⟨hi4, h⟩ := gd_some h
    refine r_iald X hw ob4_b0 lb4_b0 hi4 d_X4_isSo_93 ?_
    refine lv_if_ne (tgt := 101) hx hb d_X4_isSo_94 (by decide) (fun hc => ?_) (fun hc => ?_)
    · simp only [if_neg hc] at h
      refine lv_iconst (v := (0 : Int32)) hx hb d_X4_isSo_101 (by decide) ?_
      exact j102 a3 (0 : Int32) h _ _ _ hw (lv_sub hl [3] rfl)
    · simp only [if_pos hc] at h
      refine lv_iconst (v := (1 : Int32)) hx hb d_X4_isSo_97 (by decide) ?_
      refine lv_goto (tgt := 102) hx hb d_X4_isSo_98 (by decide) ?_
      exact j102 a3 (1 : Int32) h _ _ _ hw (lv_sub hl [3] rfl)
  have h := ite_f h hc3
  by_cases hc4 : a2 = (4 : Int32)
  · have h := ite_t h hc4
    refine lv_tableIn (tgt := 121) hx hb d_X4_isSo_1 (by rw [hc4]; decide) (by rw [hc4]; decide) (by rw [hc4]; rfl) (by decide) ?_
    refine lv_aload_n hx hb d_X4_isSo_121 rfl (lv_at hl 0 rfl) ?_
    refine r_getrN (j := 4) X hw ct0 ob0_b0 rfl (Nat.le_of_ble_eq_true rfl) (q := (b0 + 5)) (rt_bed hb_b0) nw_20 d_X4_isSo_122 ?_
    refine lv_iload_n hx hb d_X4_isSo_125 rfl (lv_at hl 1 rfl) ?_
    obtain ⟨hi5, h⟩ := gd_some h
    refine r_iald X hw ob5_b0 lb5_b0 hi5 d_X4_isSo_126 ?_
    refine lv_iload_n hx hb d_X4_isSo_127 rfl (lv_at hl 3 rfl) ?_
    refine lv_icmp_lt (tgt := 135) hx hb d_X4_isSo_128 (by decide) (fun hc => ?_) (fun hc => ?_)
    · simp only [if_pos hc] at h
      refine lv_iconst (v := (0 : Int32)) hx hb d_X4_isSo_135 (by decide) ?_
      obtain rfl := Option.some.inj h
      subst hQ
      exact r_zret X hr nbz0 hlk hw d_X4_isSo_136
    · simp only [if_neg hc] at h
      refine lv_iconst (v := (1 : Int32)) hx hb d_X4_isSo_131 (by decide) ?_
      refine lv_goto (tgt := 136) hx hb d_X4_isSo_132 (by decide) ?_
      obtain rfl := Option.some.inj h
      subst hQ
      exact r_zret X hr nbz1 hlk hw d_X4_isSo_136
  have h := ite_f h hc4
  have hn0 := lv_neT hc0 (a := 0) (by decide)
  have hn1 := lv_neT hc1 (a := 1) (by decide)
  have hn2 := lv_neT hc2 (a := 2) (by decide)
  have hn3 := lv_neT hc3 (a := 3) (by decide)
  have hn4 := lv_neT hc4 (a := 4) (by decide)
  refine lv_tableOut (tgt := 137) hx hb d_X4_isSo_1 (by omega) (by decide) ?_
  refine lv_iconst (v := (0 : Int32)) hx hb d_X4_isSo_137 (by decide) ?_
  obtain rfl := Option.some.inj h
  subst hQ
  exact r_zret X hr nbz0 hlk hw d_X4_isSo_138
abbrev yX4_onesSuch : MethodName := ⟨"OysterBeds$Hearsay", "onesSuch", "(LOysterBeds$Bed;II)I"⟩
theorem mwX4_onesSuch : MW yX4_onesSuch prog_6_method_7_code 5 (some .int) 3 := ⟨wd_757, wd_7, by decide +kernel⟩
theorem d_X4_onesSuch_0 : decode prog_6_method_7_code 0 = .ok (.iconst 0, 1) := by decide +kernel
theorem d_X4_onesSuch_1 : decode prog_6_method_7_code 1 = .ok (.istore_n 3, 1) := by decide +kernel
theorem d_X4_onesSuch_2 : decode prog_6_method_7_code 2 = .ok (.iconst 0, 1) := by decide +kernel
theorem d_X4_onesSuch_3 : decode prog_6_method_7_code 3 = .ok (.istore 4, 2) := by decide +kernel
theorem d_X4_onesSuch_5 : decode prog_6_method_7_code 5 = .ok (.iload 4, 2) := by decide +kernel
theorem d_X4_onesSuch_7 : decode prog_6_method_7_code 7 = .ok (.aload_n 0, 1) := by decide +kernel
theorem d_X4_onesSuch_8 : decode prog_6_method_7_code 8 = .ok (.getfield 39, 3) := by decide +kernel
theorem d_X4_onesSuch_11 : decode prog_6_method_7_code 11 = .ok (.if_icmp .ge 27, 3) := by decide +kernel
theorem d_X4_onesSuch_14 : decode prog_6_method_7_code 14 = .ok (.aload_n 0, 1) := by decide +kernel
theorem d_X4_onesSuch_15 : decode prog_6_method_7_code 15 = .ok (.iload 4, 2) := by decide +kernel
theorem d_X4_onesSuch_17 : decode prog_6_method_7_code 17 = .ok (.iload_n 1, 1) := by decide +kernel
theorem d_X4_onesSuch_18 : decode prog_6_method_7_code 18 = .ok (.iload_n 2, 1) := by decide +kernel
theorem d_X4_onesSuch_19 : decode prog_6_method_7_code 19 = .ok (.invokestatic 40, 3) := by decide +kernel
theorem d_X4_onesSuch_22 : decode prog_6_method_7_code 22 = .ok (.ifCond .eq 10, 3) := by decide +kernel
theorem d_X4_onesSuch_25 : decode prog_6_method_7_code 25 = .ok (.iload_n 3, 1) := by decide +kernel
theorem d_X4_onesSuch_26 : decode prog_6_method_7_code 26 = .ok (.iconst 1, 1) := by decide +kernel
theorem d_X4_onesSuch_27 : decode prog_6_method_7_code 27 = .ok (.iload 4, 2) := by decide +kernel
theorem d_X4_onesSuch_29 : decode prog_6_method_7_code 29 = .ok (.ishl, 1) := by decide +kernel
theorem d_X4_onesSuch_30 : decode prog_6_method_7_code 30 = .ok (.ior, 1) := by decide +kernel
theorem d_X4_onesSuch_31 : decode prog_6_method_7_code 31 = .ok (.istore_n 3, 1) := by decide +kernel
theorem d_X4_onesSuch_32 : decode prog_6_method_7_code 32 = .ok (.iinc 4 1, 3) := by decide +kernel
theorem d_X4_onesSuch_35 : decode prog_6_method_7_code 35 = .ok (.goto (-30), 3) := by decide +kernel
theorem d_X4_onesSuch_38 : decode prog_6_method_7_code 38 = .ok (.iload_n 3, 1) := by decide +kernel
theorem d_X4_onesSuch_39 : decode prog_6_method_7_code 39 = .ok (.ireturn, 1) := by decide +kernel
def f_X4_onesSuch_j32_5 (b0 : Nat) (χ : St) (x1 : Int32) (x2 : Int32) (x3 : Int32) (x4 : Int32) : Option ((Int32 × Int32) ⊕ (Int32)) := some (.inl (x3, (x4 + (1 : Int32))))
def f_X4_onesSuch_s5 (b0 : Nat) (χ : St) (y1 : Int32) (y2 : Int32) (x3 : Int32) (x4 : Int32) : Option ((Int32 × Int32) ⊕ (Int32)) := (if (cF χ b0 5) ≤ x4 then some (.inr x3) else (f_X4_isSo χ b0 x4 y1 y2).bind (fun q1 => f_X4_onesSuch_j32_5 b0 χ y1 y2 (if q1 = 0 then x3 else (x3 ||| ((1 : Int32) <<< (x4 &&& 31)))) x4))
def f_X4_onesSuch (χ : St) (b0 : Nat) (a1 : Int32) (a2 : Int32) : Option (Int32) := (iter (fun z => f_X4_onesSuch_s5 b0 χ a1 a2 z.1 z.2) FU ((0 : Int32), (0 : Int32))).bind (fun z3 => some z3)
theorem c_X4_onesSuch {l : Launch} {G : gT} {χ σ : St} {b0 : Nat} {a1 : Int32} {a2 : Int32} (hf : FW G) (hb_b0 : isBed b0 = true) {q : Int32} (h : f_X4_onesSuch χ b0 a1 a2 = some q) : Ct l G yX4_onesSuch prog_6_method_7_code 5 (some .int) 1 23 [.ref (ga G b0), .int a1, .int a2] χ σ (some (.int q)) χ σ := by
  obtain ⟨ob0_b0, ob1_b0, ob2_b0, ob3_b0, ob4_b0, ob5_b0, lb_b0, -, -⟩ := bed_at hf hb_b0
  have lb0_b0 : b0 < 300 := by omega
  have lb1_b0 : b0 + 1 < 300 := by omega
  have lb2_b0 : b0 + 2 < 300 := by omega
  have lb3_b0 : b0 + 3 < 300 := by omega
  have lb4_b0 : b0 + 4 < 300 := by omega
  have lb5_b0 : b0 + 5 < 300 := by omega
  refine Ct.of (by decide) (Nat.le_of_ble_eq_true rfl) ?_
  intro p e s m args below meth c Q X hr hlk hQ
  have hx := X.1
  have hb := X.2.1
  have j32_5 : ∀ (x1 : Int32) (x2 : Int32) (x3 : Int32) (x4 : Int32) (o : (Int32 × Int32) ⊕ (Int32)), f_X4_onesSuch_j32_5 b0 χ x1 x2 x3 x4 = some o → Sum.elim (fun z : Int32 × Int32 => Wat p l e (rmk 1 23) s m args below meth c Q G 5 5 [] [(3, .int z.1), (4, .int z.2), (0, .ref (ga G b0)), (1, .int x1), (2, .int x2)] χ σ) (fun z : Int32 => Wat p l e (rmk 1 23) s m args below meth c Q G 5 38 [] [(3, .int z)] χ σ) o → Wat p l e (rmk 1 23) s m args below meth c Q G 5 32 [] [(0, .ref (ga G b0)), (1, .int x1), (2, .int x2), (3, .int x3), (4, .int x4)] χ σ := by
    intro x1 x2 x3 x4 o h hk H locs ls hw hl
    unfold f_X4_onesSuch_j32_5 at h
    refine lv_iinc (v := (x4 + (1 : Int32))) (k := 4) (lv' := [(4, .int (x4 + (1 : Int32))), (0, .ref (ga G b0)), (1, .int x1), (2, .int x2), (3, .int x3)]) hx hb d_X4_onesSuch_32 hl rfl (by rfl) (Nat.le_of_ble_eq_true rfl) rfl (fun ls hl => ?_)
    refine lv_goto (tgt := 5) hx hb d_X4_onesSuch_35 (by decide) ?_
    obtain rfl := Option.some.inj h
    dsimp only [Sum.elim_inl] at hk
    exact hk _ _ _ hw (lv_sub hl [4, 0, 1, 2, 3] rfl)
  have b5 : ∀ (y1 : Int32) (y2 : Int32) (x3 : Int32) (x4 : Int32) (o : (Int32 × Int32) ⊕ (Int32)), f_X4_onesSuch_s5 b0 χ y1 y2 x3 x4 = some o → Sum.elim (fun z : Int32 × Int32 => Wat p l e (rmk 1 23) s m args below meth c Q G 5 5 [] [(3, .int z.1), (4, .int z.2), (0, .ref (ga G b0)), (1, .int y1), (2, .int y2)] χ σ) (fun z : Int32 => Wat p l e (rmk 1 23) s m args below meth c Q G 5 38 [] [(3, .int z)] χ σ) o → Wat p l e (rmk 1 23) s m args below meth c Q G 5 5 [] [(3, .int x3), (4, .int x4), (0, .ref (ga G b0)), (1, .int y1), (2, .int y2)] χ σ := by
    intro y1 y2 x3 x4 o h hk H locs ls hw hl
    unfold f_X4_onesSuch_s5 at h
    refine lv_iload hx hb d_X4_onesSuch_5 (lv_at hl 1 rfl) ?_
    refine lv_aload_n hx hb d_X4_onesSuch_7 rfl (lv_at hl 2 rfl) ?_
    refine r_getiN (j := 5) X hw ct0 ob0_b0 lb0_b0 rfl (Nat.le_of_ble_eq_true rfl) nw_26 d_X4_onesSuch_8 ?_
    refine lv_icmp_ge (tgt := 38) hx hb d_X4_onesSuch_11 (by decide) (fun hc => ?_) (fun hc => ?_)
    · have h := ite_t h hc
      obtain rfl := Option.some.inj h
      dsimp only [Sum.elim_inr] at hk
      exact hk _ _ _ hw (lv_sub hl [0] rfl)
    · have h := ite_f h hc
      refine lv_aload_n hx hb d_X4_onesSuch_14 rfl (lv_at hl 2 rfl) ?_
      refine lv_iload hx hb d_X4_onesSuch_15 (lv_at hl 1 rfl) ?_
      refine lv_iload_n hx hb d_X4_onesSuch_17 rfl (lv_at hl 3 rfl) ?_
      refine lv_iload_n hx hb d_X4_onesSuch_18 rfl (lv_at hl 4 rfl) ?_
      obtain ⟨q1, e2, h⟩ := bd_some h
      refine r_callS (As := [.ref (ga G b0), .int x4, .int y1, .int y2]) (rest := []) (st' := [.int q1]) X hw hl mwX4_isSo wd_759 wd_758 (c_X4_isSo hf hb_b0 e2) rfl ⟨Nat.le_of_ble_eq_true rfl, Nat.le_of_ble_eq_true rfl⟩ ⟨Nat.le_refl _, Nat.le_refl _⟩ rfl rfl (Nat.le_of_ble_eq_true rfl) d_X4_onesSuch_19 (fun H locs hw => ?_)
      refine lv_if_eq (tgt := 32) hx hb d_X4_onesSuch_22 (by decide) (fun hc => ?_) (fun hc => ?_)
      · simp only [if_pos hc] at h
        exact j32_5 y1 y2 x3 x4 o h hk _ _ _ hw (lv_sub hl [2, 3, 4, 0, 1] rfl)
      · simp only [if_neg hc] at h
        refine lv_iload_n hx hb d_X4_onesSuch_25 rfl (lv_at hl 0 rfl) ?_
        refine lv_iconst (v := (1 : Int32)) hx hb d_X4_onesSuch_26 (by decide) ?_
        refine lv_iload hx hb d_X4_onesSuch_27 (lv_at hl 1 rfl) ?_
        refine lv_ishl hx hb d_X4_onesSuch_29 ?_
        refine lv_ior hx hb d_X4_onesSuch_30 ?_
        refine lv_istore_n (lv' := [(3, .int (x3 ||| ((1 : Int32) <<< (x4 &&& 31)))), (4, .int x4), (0, .ref (ga G b0)), (1, .int y1), (2, .int y2)]) hx hb d_X4_onesSuch_31 rfl hl (Nat.le_of_ble_eq_true rfl) rfl (fun ls hl => ?_)
        exact j32_5 y1 y2 (x3 ||| ((1 : Int32) <<< (x4 &&& 31))) x4 o h hk _ _ _ hw (lv_sub hl [2, 3, 4, 0, 1] rfl)
  intro H locs ls hw hl
  have hl : lv_has ls 5 [(0, .ref (ga G b0)), (1, .int a1), (2, .int a2)] := hl
  unfold f_X4_onesSuch at h
  refine lv_iconst (v := (0 : Int32)) hx hb d_X4_onesSuch_0 (by decide) ?_
  refine lv_istore_n (lv' := [(3, .int (0 : Int32)), (0, .ref (ga G b0)), (1, .int a1), (2, .int a2)]) hx hb d_X4_onesSuch_1 rfl hl (Nat.le_of_ble_eq_true rfl) rfl (fun ls hl => ?_)
  refine lv_iconst (v := (0 : Int32)) hx hb d_X4_onesSuch_2 (by decide) ?_
  refine lv_istore (lv' := [(4, .int (0 : Int32)), (3, .int (0 : Int32)), (0, .ref (ga G b0)), (1, .int a1), (2, .int a2)]) hx hb d_X4_onesSuch_3 hl (Nat.le_of_ble_eq_true rfl) rfl (fun ls hl => ?_)
  obtain ⟨z3, e4, h⟩ := bd_some h
  refine iter_w (Wh := fun z : Int32 × Int32 => Wat p l e (rmk 1 23) s m args below meth c Q G 5 5 [] [(3, .int z.1), (4, .int z.2), (0, .ref (ga G b0)), (1, .int a1), (2, .int a2)] χ σ) (K := fun z : Int32 => Wat p l e (rmk 1 23) s m args below meth c Q G 5 38 [] [(3, .int z)] χ σ) (fun z o h1 h2 => b5 a1 a2 z.1 z.2 o h1 h2) FU _ _ e4 ?_ _ _ _ hw (lv_sub hl [1, 0, 2, 3, 4] rfl)
  intro H locs ls hw hl
  refine lv_iload_n hx hb d_X4_onesSuch_38 rfl (lv_at hl 0 rfl) ?_
  obtain rfl := Option.some.inj h
  subst hQ
  exact r_iret X hr hlk hw d_X4_onesSuch_39
abbrev yX4_onesOf : MethodName := ⟨"OysterBeds$Hearsay", "onesOf", "(LOysterBeds$Bed;)I"⟩
theorem mwX4_onesOf : MW yX4_onesOf prog_6_method_6_code 4 (some .int) 1 := ⟨wd_753, wd_7, by decide +kernel⟩
theorem d_X4_onesOf_0 : decode prog_6_method_6_code 0 = .ok (.aload_n 1, 1) := by decide +kernel
theorem d_X4_onesOf_1 : decode prog_6_method_6_code 1 = .ok (.invokevirtual 29, 3) := by decide +kernel
theorem d_X4_onesOf_4 : decode prog_6_method_6_code 4 = .ok (.istore_n 2, 1) := by decide +kernel
theorem d_X4_onesOf_5 : decode prog_6_method_6_code 5 = .ok (.iconst 0, 1) := by decide +kernel
theorem d_X4_onesOf_6 : decode prog_6_method_6_code 6 = .ok (.istore_n 3, 1) := by decide +kernel
theorem d_X4_onesOf_7 : decode prog_6_method_6_code 7 = .ok (.iload_n 3, 1) := by decide +kernel
theorem d_X4_onesOf_8 : decode prog_6_method_6_code 8 = .ok (.aload_n 0, 1) := by decide +kernel
theorem d_X4_onesOf_9 : decode prog_6_method_6_code 9 = .ok (.getfield 21, 3) := by decide +kernel
theorem d_X4_onesOf_12 : decode prog_6_method_6_code 12 = .ok (.if_icmp .ge 28, 3) := by decide +kernel
theorem d_X4_onesOf_15 : decode prog_6_method_6_code 15 = .ok (.iload_n 2, 1) := by decide +kernel
theorem d_X4_onesOf_16 : decode prog_6_method_6_code 16 = .ok (.aload_n 1, 1) := by decide +kernel
theorem d_X4_onesOf_17 : decode prog_6_method_6_code 17 = .ok (.aload_n 0, 1) := by decide +kernel
theorem d_X4_onesOf_18 : decode prog_6_method_6_code 18 = .ok (.getfield 9, 3) := by decide +kernel
theorem d_X4_onesOf_21 : decode prog_6_method_6_code 21 = .ok (.iload_n 3, 1) := by decide +kernel
theorem d_X4_onesOf_22 : decode prog_6_method_6_code 22 = .ok (.iaload, 1) := by decide +kernel
theorem d_X4_onesOf_23 : decode prog_6_method_6_code 23 = .ok (.aload_n 0, 1) := by decide +kernel
theorem d_X4_onesOf_24 : decode prog_6_method_6_code 24 = .ok (.getfield 15, 3) := by decide +kernel
theorem d_X4_onesOf_27 : decode prog_6_method_6_code 27 = .ok (.iload_n 3, 1) := by decide +kernel
theorem d_X4_onesOf_28 : decode prog_6_method_6_code 28 = .ok (.iaload, 1) := by decide +kernel
theorem d_X4_onesOf_29 : decode prog_6_method_6_code 29 = .ok (.invokestatic 35, 3) := by decide +kernel
theorem d_X4_onesOf_32 : decode prog_6_method_6_code 32 = .ok (.iand, 1) := by decide +kernel
theorem d_X4_onesOf_33 : decode prog_6_method_6_code 33 = .ok (.istore_n 2, 1) := by decide +kernel
theorem d_X4_onesOf_34 : decode prog_6_method_6_code 34 = .ok (.iinc 3 1, 3) := by decide +kernel
theorem d_X4_onesOf_37 : decode prog_6_method_6_code 37 = .ok (.goto (-30), 3) := by decide +kernel
theorem d_X4_onesOf_40 : decode prog_6_method_6_code 40 = .ok (.iload_n 2, 1) := by decide +kernel
theorem d_X4_onesOf_41 : decode prog_6_method_6_code 41 = .ok (.ireturn, 1) := by decide +kernel
def f_X4_onesOf_s7 (b1 : Nat) (χ : St) (x2 : Int32) (x3 : Int32) : Option ((Int32 × Int32) ⊕ (Int32)) := (if (cF χ 13 2) ≤ x3 then some (.inr x2) else gd (inb x3 12) (gd (inb x3 12) ((f_X4_onesSuch χ b1 (cA χ 14 x3.toNatClampNeg) (cA χ 15 x3.toNatClampNeg)).bind (fun q5 => some (.inl ((x2 &&& q5), (x3 + (1 : Int32))))))))
def f_X4_onesOf (χ : St) (b1 : Nat) : Option (Int32) := (f_X0_all χ b1).bind (fun q1 => (iter (fun z => f_X4_onesOf_s7 b1 χ z.1 z.2) FU (q1, (0 : Int32))).bind (fun z7 => some z7))
theorem c_X4_onesOf {l : Launch} {G : gT} {χ σ : St} {b1 : Nat} (hf : FW G) (hb_b1 : isBed b1 = true) {q : Int32} (h : f_X4_onesOf χ b1 = some q) : Ct l G yX4_onesOf prog_6_method_6_code 4 (some .int) 2 47 [.ref (ga G 13), .ref (ga G b1)] χ σ (some (.int q)) χ σ := by
  obtain ⟨ob0_b1, ob1_b1, ob2_b1, ob3_b1, ob4_b1, ob5_b1, lb_b1, -, -⟩ := bed_at hf hb_b1
  have lb0_b1 : b1 < 300 := by omega
  have lb1_b1 : b1 + 1 < 300 := by omega
  have lb2_b1 : b1 + 2 < 300 := by omega
  have lb3_b1 : b1 + 3 < 300 := by omega
  have lb4_b1 : b1 + 4 < 300 := by omega
  have lb5_b1 : b1 + 5 < 300 := by omega
  refine Ct.of (by decide) (Nat.le_of_ble_eq_true rfl) ?_
  intro p e s m args below meth c Q X hr hlk hQ
  have hx := X.1
  have hb := X.2.1
  have b7 : ∀ (x2 : Int32) (x3 : Int32) (o : (Int32 × Int32) ⊕ (Int32)), f_X4_onesOf_s7 b1 χ x2 x3 = some o → Sum.elim (fun z : Int32 × Int32 => Wat p l e (rmk 2 47) s m args below meth c Q G 4 7 [] [(2, .int z.1), (3, .int z.2), (0, .ref (ga G 13)), (1, .ref (ga G b1))] χ σ) (fun z : Int32 => Wat p l e (rmk 2 47) s m args below meth c Q G 4 40 [] [(2, .int z)] χ σ) o → Wat p l e (rmk 2 47) s m args below meth c Q G 4 7 [] [(2, .int x2), (3, .int x3), (0, .ref (ga G 13)), (1, .ref (ga G b1))] χ σ := by
    intro x2 x3 o h hk H locs ls hw hl
    unfold f_X4_onesOf_s7 at h
    refine lv_iload_n hx hb d_X4_onesOf_7 rfl (lv_at hl 1 rfl) ?_
    refine lv_aload_n hx hb d_X4_onesOf_8 rfl (lv_at hl 2 rfl) ?_
    refine r_geti (j := 2) X hw ct1 (o_13 hf) (Nat.le_of_ble_eq_true rfl) rfl (Nat.le_of_ble_eq_true rfl) wd_174 d_X4_onesOf_9 ?_
    refine lv_icmp_ge (tgt := 40) hx hb d_X4_onesOf_12 (by decide) (fun hc => ?_) (fun hc => ?_)
    · have h := ite_t h hc
      obtain rfl := Option.some.inj h
      dsimp only [Sum.elim_inr] at hk
      exact hk _ _ _ hw (lv_sub hl [0] rfl)
    · have h := ite_f h hc
      refine lv_iload_n hx hb d_X4_onesOf_15 rfl (lv_at hl 0 rfl) ?_
      refine lv_aload_n hx hb d_X4_onesOf_16 rfl (lv_at hl 3 rfl) ?_
      refine lv_aload_n hx hb d_X4_onesOf_17 rfl (lv_at hl 2 rfl) ?_
      refine r_getr (j := 0) X hw ct1 (o_13 hf) rfl (Nat.le_of_ble_eq_true rfl) (q := 14) rfl wd_172 d_X4_onesOf_18 ?_
      refine lv_iload_n hx hb d_X4_onesOf_21 rfl (lv_at hl 1 rfl) ?_
      obtain ⟨hi3, h⟩ := gd_some h
      refine r_iald X hw (o_14 hf) (Nat.le_of_ble_eq_true rfl) hi3 d_X4_onesOf_22 ?_
      refine lv_aload_n hx hb d_X4_onesOf_23 rfl (lv_at hl 2 rfl) ?_
      refine r_getr (j := 1) X hw ct1 (o_13 hf) rfl (Nat.le_of_ble_eq_true rfl) (q := 15) rfl wd_173 d_X4_onesOf_24 ?_
      refine lv_iload_n hx hb d_X4_onesOf_27 rfl (lv_at hl 1 rfl) ?_
      obtain ⟨hi4, h⟩ := gd_some h
      refine r_iald X hw (o_15 hf) (Nat.le_of_ble_eq_true rfl) hi4 d_X4_onesOf_28 ?_
      obtain ⟨q5, e6, h⟩ := bd_some h
      refine r_callS (As := [.ref (ga G b1), .int (cA χ 14 x3.toNatClampNeg), .int (cA χ 15 x3.toNatClampNeg)]) (rest := [.int x2]) (st' := [.int q5, .int x2]) X hw hl mwX4_onesSuch wd_756 wd_755 (c_X4_onesSuch hf hb_b1 e6) rfl ⟨Nat.le_of_ble_eq_true rfl, Nat.le_of_ble_eq_true rfl⟩ ⟨Nat.le_refl _, Nat.le_refl _⟩ rfl rfl (Nat.le_of_ble_eq_true rfl) d_X4_onesOf_29 (fun H locs hw => ?_)
      refine lv_iand hx hb d_X4_onesOf_32 ?_
      refine lv_istore_n (lv' := [(2, .int (x2 &&& q5)), (3, .int x3), (0, .ref (ga G 13)), (1, .ref (ga G b1))]) hx hb d_X4_onesOf_33 rfl hl (Nat.le_of_ble_eq_true rfl) rfl (fun ls hl => ?_)
      refine lv_iinc (v := (x3 + (1 : Int32))) (k := 1) (lv' := [(3, .int (x3 + (1 : Int32))), (2, .int (x2 &&& q5)), (0, .ref (ga G 13)), (1, .ref (ga G b1))]) hx hb d_X4_onesOf_34 hl rfl (by rfl) (Nat.le_of_ble_eq_true rfl) rfl (fun ls hl => ?_)
      refine lv_goto (tgt := 7) hx hb d_X4_onesOf_37 (by decide) ?_
      obtain rfl := Option.some.inj h
      dsimp only [Sum.elim_inl] at hk
      exact hk _ _ _ hw (lv_sub hl [1, 0, 2, 3] rfl)
  intro H locs ls hw hl
  have hl : lv_has ls 4 [(0, .ref (ga G 13)), (1, .ref (ga G b1))] := hl
  unfold f_X4_onesOf at h
  refine lv_aload_n hx hb d_X4_onesOf_0 rfl (lv_at hl 1 rfl) ?_
  obtain ⟨q1, e2, h⟩ := bd_some h
  refine r_callV (As := []) (rest := []) (st' := [.int q1]) X hw hl mwX0_all wd_570 wd_571 wd_754 (c_X0_all hf hb_b1 e2) (r_recv X hw ct0 ob0_b1) rfl ⟨Nat.le_of_ble_eq_true rfl, Nat.le_of_ble_eq_true rfl⟩ ⟨Nat.le_refl _, Nat.le_refl _⟩ rfl rfl (Nat.le_of_ble_eq_true rfl) d_X4_onesOf_1 (fun H locs hw => ?_)
  refine lv_istore_n (lv' := [(2, .int q1), (0, .ref (ga G 13)), (1, .ref (ga G b1))]) hx hb d_X4_onesOf_4 rfl hl (Nat.le_of_ble_eq_true rfl) rfl (fun ls hl => ?_)
  refine lv_iconst (v := (0 : Int32)) hx hb d_X4_onesOf_5 (by decide) ?_
  refine lv_istore_n (lv' := [(3, .int (0 : Int32)), (2, .int q1), (0, .ref (ga G 13)), (1, .ref (ga G b1))]) hx hb d_X4_onesOf_6 rfl hl (Nat.le_of_ble_eq_true rfl) rfl (fun ls hl => ?_)
  obtain ⟨z7, e8, h⟩ := bd_some h
  refine iter_w (Wh := fun z : Int32 × Int32 => Wat p l e (rmk 2 47) s m args below meth c Q G 4 7 [] [(2, .int z.1), (3, .int z.2), (0, .ref (ga G 13)), (1, .ref (ga G b1))] χ σ) (K := fun z : Int32 => Wat p l e (rmk 2 47) s m args below meth c Q G 4 40 [] [(2, .int z)] χ σ) (fun z o h1 h2 => b7 z.1 z.2 o h1 h2) FU _ _ e8 ?_ _ _ _ hw (lv_sub hl [1, 0, 2, 3] rfl)
  intro H locs ls hw hl
  refine lv_iload_n hx hb d_X4_onesOf_40 rfl (lv_at hl 0 rfl) ?_
  obtain rfl := Option.some.inj h
  subst hQ
  exact r_iret X hr hlk hw d_X4_onesOf_41
abbrev yX5_emit : MethodName := ⟨"OysterBeds$Law", "emit", "(I)V"⟩
theorem mwX5_emit : MW yX5_emit prog_7_method_10_code 2 none 1 := ⟨wd_210, wd_8, by decide +kernel⟩
theorem d_X5_emit_0 : decode prog_7_method_10_code 0 = .ok (.aload_n 0, 1) := by decide +kernel
theorem d_X5_emit_1 : decode prog_7_method_10_code 1 = .ok (.getfield 71, 3) := by decide +kernel
theorem d_X5_emit_4 : decode prog_7_method_10_code 4 = .ok (.bipush 40, 2) := by decide +kernel
theorem d_X5_emit_6 : decode prog_7_method_10_code 6 = .ok (.if_icmp .ge 23, 3) := by decide +kernel
theorem d_X5_emit_9 : decode prog_7_method_10_code 9 = .ok (.aload_n 0, 1) := by decide +kernel
theorem d_X5_emit_10 : decode prog_7_method_10_code 10 = .ok (.getfield 9, 3) := by decide +kernel
theorem d_X5_emit_13 : decode prog_7_method_10_code 13 = .ok (.aload_n 0, 1) := by decide +kernel
theorem d_X5_emit_14 : decode prog_7_method_10_code 14 = .ok (.getfield 71, 3) := by decide +kernel
theorem d_X5_emit_17 : decode prog_7_method_10_code 17 = .ok (.iload_n 1, 1) := by decide +kernel
theorem d_X5_emit_18 : decode prog_7_method_10_code 18 = .ok (.iastore, 1) := by decide +kernel
theorem d_X5_emit_19 : decode prog_7_method_10_code 19 = .ok (.aload_n 0, 1) := by decide +kernel
theorem d_X5_emit_20 : decode prog_7_method_10_code 20 = .ok (.dup, 1) := by decide +kernel
theorem d_X5_emit_21 : decode prog_7_method_10_code 21 = .ok (.getfield 71, 3) := by decide +kernel
theorem d_X5_emit_24 : decode prog_7_method_10_code 24 = .ok (.iconst 1, 1) := by decide +kernel
theorem d_X5_emit_25 : decode prog_7_method_10_code 25 = .ok (.iadd, 1) := by decide +kernel
theorem d_X5_emit_26 : decode prog_7_method_10_code 26 = .ok (.putfield 71, 3) := by decide +kernel
theorem d_X5_emit_29 : decode prog_7_method_10_code 29 = .ok (.return_, 1) := by decide +kernel
def f_X5_emit (χ : St) (w : Nat) (a1 : Int32) : Option (St) := (if (40 : Int32) ≤ (cF χ w 1) then some χ else gd (inb (cF χ w 1) 40) (some (sF (sA χ (w + 1) (cF χ w 1).toNatClampNeg a1) w 1 ((cF (sA χ (w + 1) (cF χ w 1).toNatClampNeg a1) w 1) + (1 : Int32)))))
theorem c_X5_emit {l : Launch} {G : gT} {χ σ : St} {w : Nat} {a1 : Int32} (hw_w : LW G w) {q : St} (h : f_X5_emit χ w a1 = some q) : Ct l G yX5_emit prog_7_method_10_code 2 none 0 0 [.ref (ga G w), .int a1] χ σ (none) q σ := by
  obtain ⟨ow0_w, ow1_w, ow2_w, ow3_w, ow4_w, lw_w⟩ := law_at hw_w
  have lw0_w : w < 300 := by omega
  have lw1_w : w + 1 < 300 := by omega
  have lw2_w : w + 2 < 300 := by omega
  have lw3_w : w + 3 < 300 := by omega
  have lw4_w : w + 4 < 300 := by omega
  refine Ct.of (by decide) (Nat.le_of_ble_eq_true rfl) ?_
  intro p e s m args below meth c Q X hr hlk hQ
  have hx := X.1
  have hb := X.2.1
  intro H locs ls hw hl
  have hl : lv_has ls 2 [(0, .ref (ga G w)), (1, .int a1)] := hl
  unfold f_X5_emit at h
  refine lv_aload_n hx hb d_X5_emit_0 rfl (lv_at hl 0 rfl) ?_
  refine r_geti (j := 1) X hw ct2 ow0_w lw0_w rfl (Nat.le_of_ble_eq_true rfl) wd_237 d_X5_emit_1 ?_
  refine lv_bipush (v := (40 : Int32)) hx hb d_X5_emit_4 (by decide) ?_
  refine lv_icmp_ge (tgt := 29) hx hb d_X5_emit_6 (by decide) (fun hc => ?_) (fun hc => ?_)
  · have h := ite_t h hc
    obtain rfl := Option.some.inj h
    subst hQ
    exact r_vret X hr hlk hw d_X5_emit_29
  · have h := ite_f h hc
    refine lv_aload_n hx hb d_X5_emit_9 rfl (lv_at hl 0 rfl) ?_
    refine r_getr (j := 0) X hw ct2 ow0_w rfl (Nat.le_of_ble_eq_true rfl) (q := (w + 1)) (rt_law hw_w).1 wd_236 d_X5_emit_10 ?_
    refine lv_aload_n hx hb d_X5_emit_13 rfl (lv_at hl 0 rfl) ?_
    refine r_geti (j := 1) X hw ct2 ow0_w lw0_w rfl (Nat.le_of_ble_eq_true rfl) wd_237 d_X5_emit_14 ?_
    refine lv_iload_n hx hb d_X5_emit_17 rfl (lv_at hl 1 rfl) ?_
    obtain ⟨hi1, h⟩ := gd_some h
    refine r_iast X hw ow1_w lw1_w hi1 d_X5_emit_18 (fun H locs hw => ?_)
    refine lv_aload_n hx hb d_X5_emit_19 rfl (lv_at hl 0 rfl) ?_
    refine lv_dup hx hb d_X5_emit_20 rfl ?_
    refine r_geti (j := 1) X hw ct2 ow0_w lw0_w rfl (Nat.le_of_ble_eq_true rfl) wd_237 d_X5_emit_21 ?_
    refine lv_iconst (v := (1 : Int32)) hx hb d_X5_emit_24 (by decide) ?_
    refine lv_iadd hx hb d_X5_emit_25 ?_
    refine r_puti (j := 1) X hw ct2 ow0_w lw0_w rfl (Nat.le_of_ble_eq_true rfl) rfl rfl rfl wd_237 d_X5_emit_26 (fun H locs hw => ?_)
    obtain rfl := Option.some.inj h
    subst hQ
    exact r_vret X hr hlk hw d_X5_emit_29
