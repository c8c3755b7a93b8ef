abbrev yX12_takesOf : MethodName := ⟨"OysterBedsModel", "takesOf", "(Ljava/lang/String;)I"⟩
theorem mwX12_takesOf : MW yX12_takesOf prog_14_method_23_code 3 (some .int) 1 := ⟨wd_1112, wd_10, by decide +kernel⟩
theorem d_X12_takesOf_0 : decode prog_14_method_23_code 0 = .ok (.iconst 0, 1) := by decide +kernel
theorem d_X12_takesOf_1 : decode prog_14_method_23_code 1 = .ok (.istore_n 2, 1) := by decide +kernel
theorem d_X12_takesOf_2 : decode prog_14_method_23_code 2 = .ok (.iload_n 2, 1) := by decide +kernel
theorem d_X12_takesOf_3 : decode prog_14_method_23_code 3 = .ok (.aload_n 1, 1) := by decide +kernel
theorem d_X12_takesOf_4 : decode prog_14_method_23_code 4 = .ok (.invokevirtual 143, 3) := by decide +kernel
theorem d_X12_takesOf_7 : decode prog_14_method_23_code 7 = .ok (.if_icmp .ge 49, 3) := by decide +kernel
theorem d_X12_takesOf_10 : decode prog_14_method_23_code 10 = .ok (.aload_n 0, 1) := by decide +kernel
theorem d_X12_takesOf_11 : decode prog_14_method_23_code 11 = .ok (.getfield 120, 3) := by decide +kernel
theorem d_X12_takesOf_14 : decode prog_14_method_23_code 14 = .ok (.aload_n 0, 1) := by decide +kernel
theorem d_X12_takesOf_15 : decode prog_14_method_23_code 15 = .ok (.getfield 132, 3) := by decide +kernel
theorem d_X12_takesOf_18 : decode prog_14_method_23_code 18 = .ok (.if_icmp .ge 38, 3) := by decide +kernel
theorem d_X12_takesOf_21 : decode prog_14_method_23_code 21 = .ok (.aload_n 1, 1) := by decide +kernel
theorem d_X12_takesOf_22 : decode prog_14_method_23_code 22 = .ok (.iload_n 2, 1) := by decide +kernel
theorem d_X12_takesOf_23 : decode prog_14_method_23_code 23 = .ok (.invokevirtual 149, 3) := by decide +kernel
theorem d_X12_takesOf_26 : decode prog_14_method_23_code 26 = .ok (.aload_n 0, 1) := by decide +kernel
theorem d_X12_takesOf_27 : decode prog_14_method_23_code 27 = .ok (.getfield 23, 3) := by decide +kernel
theorem d_X12_takesOf_30 : decode prog_14_method_23_code 30 = .ok (.aload_n 0, 1) := by decide +kernel
theorem d_X12_takesOf_31 : decode prog_14_method_23_code 31 = .ok (.getfield 120, 3) := by decide +kernel
theorem d_X12_takesOf_34 : decode prog_14_method_23_code 34 = .ok (.iaload, 1) := by decide +kernel
theorem d_X12_takesOf_35 : decode prog_14_method_23_code 35 = .ok (.if_icmp .ne 15, 3) := by decide +kernel
theorem d_X12_takesOf_38 : decode prog_14_method_23_code 38 = .ok (.aload_n 0, 1) := by decide +kernel
theorem d_X12_takesOf_39 : decode prog_14_method_23_code 39 = .ok (.dup, 1) := by decide +kernel
theorem d_X12_takesOf_40 : decode prog_14_method_23_code 40 = .ok (.getfield 120, 3) := by decide +kernel
theorem d_X12_takesOf_43 : decode prog_14_method_23_code 43 = .ok (.iconst 1, 1) := by decide +kernel
theorem d_X12_takesOf_44 : decode prog_14_method_23_code 44 = .ok (.iadd, 1) := by decide +kernel
theorem d_X12_takesOf_45 : decode prog_14_method_23_code 45 = .ok (.putfield 120, 3) := by decide +kernel
theorem d_X12_takesOf_48 : decode prog_14_method_23_code 48 = .ok (.iload_n 2, 1) := by decide +kernel
theorem d_X12_takesOf_49 : decode prog_14_method_23_code 49 = .ok (.ireturn, 1) := by decide +kernel
theorem d_X12_takesOf_50 : decode prog_14_method_23_code 50 = .ok (.iinc 2 1, 3) := by decide +kernel
theorem d_X12_takesOf_53 : decode prog_14_method_23_code 53 = .ok (.goto (-51), 3) := by decide +kernel
theorem d_X12_takesOf_56 : decode prog_14_method_23_code 56 = .ok (.iconst (-1), 1) := by decide +kernel
theorem d_X12_takesOf_57 : decode prog_14_method_23_code 57 = .ok (.ireturn, 1) := by decide +kernel
def f_X12_takesOf_s2 (t1 : Nat) (τ : St) (x2 : Int32) : Option ((Int32 × St) ⊕ ((Int32 × St) ⊕ (St))) := (if (slen t1) ≤ x2 then some (.inr (.inr τ)) else (if (cF τ 300 11) ≤ (cF τ 300 10) then some (.inr (.inr τ)) else gd (insb x2 t1) (gd (inb (cF τ 300 10) 80) ((if (schr t1 x2) = (cA τ 308 (cF τ 300 10).toNatClampNeg) then some (.inr (.inl (x2, (sF τ 300 10 ((cF τ 300 10) + (1 : Int32)))))) else some (.inl ((x2 + (1 : Int32)), τ)))))))
def f_X12_takesOf (σ : St) (t1 : Nat) : Option (Int32 × St) := (iter (fun z => f_X12_takesOf_s2 t1 z.2 z.1) FU ((0 : Int32), σ)).bind (Sum.elim (fun r => some r) (fun z3 => some ((-1 : Int32), z3)))
theorem c_X12_takesOf {l : Launch} {G : gT} {χ σ : St} {t1 : Nat} (hf : FW G) (ht_t1 : t1 < 9) {q : Int32 × St} (h : f_X12_takesOf σ t1 = some q) : Ct l G yX12_takesOf prog_14_method_23_code 3 (some .int) 6 220 [.ref (ga G 300), .ref (gK G t1)] χ σ (some (.int q.1)) χ q.2 := by
  refine Ct.of (by decide) (Nat.le_of_ble_eq_true rfl) ?_
  intro p e s m args below meth c Q X hr hlk hQ
  have hx := X.1
  have hb := X.2.1
  have b2 : ∀ (τ : St) (x2 : Int32) (o : (Int32 × St) ⊕ ((Int32 × St) ⊕ (St))), f_X12_takesOf_s2 t1 τ x2 = some o → Sum.elim (fun z : Int32 × St => Wat p l e (rmk 6 220) s m args below meth c Q G 3 2 [] [(2, .int z.1), (0, .ref (ga G 300)), (1, .ref (gK G t1))] χ z.2) (Sum.elim (fun r : Int32 × St => r = q) (fun z : St => Wat p l e (rmk 6 220) s m args below meth c Q G 3 56 [] [] χ z)) o → Wat p l e (rmk 6 220) s m args below meth c Q G 3 2 [] [(2, .int x2), (0, .ref (ga G 300)), (1, .ref (gK G t1))] χ τ := by
    intro τ x2 o h hk H locs ls hw hl
    unfold f_X12_takesOf_s2 at h
    refine lv_iload_n hx hb d_X12_takesOf_2 rfl (lv_at hl 0 rfl) ?_
    refine lv_aload_n hx hb d_X12_takesOf_3 rfl (lv_at hl 2 rfl) ?_
    refine r_slen X hw hl ht_t1 wd_1113 ⟨Nat.le_of_ble_eq_true rfl, Nat.le_of_ble_eq_true rfl⟩ ⟨Nat.le_refl _, Nat.le_refl _⟩ (Nat.le_of_ble_eq_true rfl) d_X12_takesOf_4 (fun H locs hw => ?_)
    refine lv_icmp_ge (tgt := 56) hx hb d_X12_takesOf_7 (by decide) (fun hc => ?_) (fun hc => ?_)
    · have h := ite_t h hc
      obtain rfl := Option.some.inj h
      dsimp only [Sum.elim_inr, Sum.elim_inl] at hk
      exact hk _ _ _ hw (lv_sub hl [] rfl)
    · have h := ite_f h hc
      refine lv_aload_n hx hb d_X12_takesOf_10 rfl (lv_at hl 1 rfl) ?_
      refine m_geti (j := 10) X hw ct8 (o_300 hf) (Nat.le_of_ble_eq_true rfl) rfl (Nat.le_of_ble_eq_true rfl) wd_966 d_X12_takesOf_11 ?_
      refine lv_aload_n hx hb d_X12_takesOf_14 rfl (lv_at hl 1 rfl) ?_
      refine m_geti (j := 11) X hw ct8 (o_300 hf) (Nat.le_of_ble_eq_true rfl) rfl (Nat.le_of_ble_eq_true rfl) wd_967 d_X12_takesOf_15 ?_
      refine lv_icmp_ge (tgt := 56) hx hb d_X12_takesOf_18 (by decide) (fun hc => ?_) (fun hc => ?_)
      · have h := ite_t h hc
        obtain rfl := Option.some.inj h
        dsimp only [Sum.elim_inr, Sum.elim_inl] at hk
        exact hk _ _ _ hw (lv_sub hl [] rfl)
      · have h := ite_f h hc
        refine lv_aload_n hx hb d_X12_takesOf_21 rfl (lv_at hl 2 rfl) ?_
        refine lv_iload_n hx hb d_X12_takesOf_22 rfl (lv_at hl 0 rfl) ?_
        obtain ⟨hi1, h⟩ := gd_some h
        refine r_schr X hw hl ht_t1 hi1 wd_1123 ⟨Nat.le_of_ble_eq_true rfl, Nat.le_of_ble_eq_true rfl⟩ ⟨Nat.le_refl _, Nat.le_refl _⟩ (Nat.le_of_ble_eq_true rfl) d_X12_takesOf_23 (fun H locs hw => ?_)
        refine lv_aload_n hx hb d_X12_takesOf_26 rfl (lv_at hl 1 rfl) ?_
        refine r_getr (j := 8) X hw ct8 (o_300 hf) rfl (Nat.le_of_ble_eq_true rfl) (q := 308) rfl wd_964 d_X12_takesOf_27 ?_
        refine lv_aload_n hx hb d_X12_takesOf_30 rfl (lv_at hl 1 rfl) ?_
        refine m_geti (j := 10) X hw ct8 (o_300 hf) (Nat.le_of_ble_eq_true rfl) rfl (Nat.le_of_ble_eq_true rfl) wd_966 d_X12_takesOf_31 ?_
        obtain ⟨hi2, h⟩ := gd_some h
        refine m_iald X hw (o_308 hf) (Nat.le_of_ble_eq_true rfl) hi2 d_X12_takesOf_34 ?_
        refine lv_icmp_ne (tgt := 50) hx hb d_X12_takesOf_35 (by decide) (fun hc => ?_) (fun hc => ?_)
        · have h := ite_f h hc
          refine lv_iinc (v := (x2 + (1 : Int32))) (k := 0) (lv' := [(2, .int (x2 + (1 : Int32))), (0, .ref (ga G 300)), (1, .ref (gK G t1))]) hx hb d_X12_takesOf_50 hl rfl (by rfl) (Nat.le_of_ble_eq_true rfl) rfl (fun ls hl => ?_)
          refine lv_goto (tgt := 2) hx hb d_X12_takesOf_53 (by decide) ?_
          obtain rfl := Option.some.inj h
          dsimp only [Sum.elim_inl] at hk
          exact hk _ _ _ hw (lv_sub hl [0, 1, 2] rfl)
        · have h := ite_t h hc
          refine lv_aload_n hx hb d_X12_takesOf_38 rfl (lv_at hl 1 rfl) ?_
          refine lv_dup hx hb d_X12_takesOf_39 rfl ?_
          refine m_geti (j := 10) X hw ct8 (o_300 hf) (Nat.le_of_ble_eq_true rfl) rfl (Nat.le_of_ble_eq_true rfl) wd_966 d_X12_takesOf_40 ?_
          refine lv_iconst (v := (1 : Int32)) hx hb d_X12_takesOf_43 (by decide) ?_
          refine lv_iadd hx hb d_X12_takesOf_44 ?_
          refine m_puti (j := 10) X hw ct8 (o_300 hf) (Nat.le_of_ble_eq_true rfl) rfl (Nat.le_of_ble_eq_true rfl) rfl rfl rfl wd_966 d_X12_takesOf_45 (fun H locs hw => ?_)
          refine lv_iload_n hx hb d_X12_takesOf_48 rfl (lv_at hl 0 rfl) ?_
          obtain rfl := Option.some.inj h
          cases (show _ = q from hk)
          subst hQ
          exact r_iret X hr hlk hw d_X12_takesOf_49
  intro H locs ls hw hl
  have hl : lv_has ls 3 [(0, .ref (ga G 300)), (1, .ref (gK G t1))] := hl
  unfold f_X12_takesOf at h
  refine lv_iconst (v := (0 : Int32)) hx hb d_X12_takesOf_0 (by decide) ?_
  refine lv_istore_n (lv' := [(2, .int (0 : Int32)), (0, .ref (ga G 300)), (1, .ref (gK G t1))]) hx hb d_X12_takesOf_1 rfl hl (Nat.le_of_ble_eq_true rfl) rfl (fun ls hl => ?_)
  obtain ⟨z3, e4, h⟩ := bd_some h
  refine iter_w (Wh := fun z : Int32 × St => Wat p l e (rmk 6 220) s m args below meth c Q G 3 2 [] [(2, .int z.1), (0, .ref (ga G 300)), (1, .ref (gK G t1))] χ z.2) (K := Sum.elim (fun r : Int32 × St => r = q) (fun z : St => Wat p l e (rmk 6 220) s m args below meth c Q G 3 56 [] [] χ z)) (fun z o h1 h2 => b2 z.2 z.1 o h1 h2) FU _ _ e4 ?_ _ _ _ hw (lv_sub hl [0, 1, 2] rfl)
  rcases z3 with r | z3
  · exact Option.some.inj h
  · dsimp only [Sum.elim_inr] at h ⊢
    intro H locs ls hw hl
    refine lv_iconst (v := (-1 : Int32)) hx hb d_X12_takesOf_56 (by decide) ?_
    obtain rfl := Option.some.inj h
    subst hQ
    exact r_iret X hr hlk hw d_X12_takesOf_57
abbrev yX12_readsOyster : MethodName := ⟨"OysterBedsModel", "readsOyster", "()Z"⟩
theorem mwX12_readsOyster : MW yX12_readsOyster prog_14_method_28_code 2 (some .boolean) 0 := ⟨wd_1107, wd_10, by decide +kernel⟩
theorem d_X12_readsOyster_0 : decode prog_14_method_28_code 0 = .ok (.aload_n 0, 1) := by decide +kernel
theorem d_X12_readsOyster_1 : decode prog_14_method_28_code 1 = .ok (.getfield 102, 3) := by decide +kernel
theorem d_X12_readsOyster_4 : decode prog_14_method_28_code 4 = .ok (.aload_n 0, 1) := by decide +kernel
theorem d_X12_readsOyster_5 : decode prog_14_method_28_code 5 = .ok (.getfield 161, 3) := by decide +kernel
theorem d_X12_readsOyster_8 : decode prog_14_method_28_code 8 = .ok (.iadd, 1) := by decide +kernel
theorem d_X12_readsOyster_9 : decode prog_14_method_28_code 9 = .ok (.bipush 8, 2) := by decide +kernel
theorem d_X12_readsOyster_11 : decode prog_14_method_28_code 11 = .ok (.if_icmp .ne 5, 3) := by decide +kernel
theorem d_X12_readsOyster_14 : decode prog_14_method_28_code 14 = .ok (.iconst 0, 1) := by decide +kernel
theorem d_X12_readsOyster_15 : decode prog_14_method_28_code 15 = .ok (.ireturn, 1) := by decide +kernel
theorem d_X12_readsOyster_16 : decode prog_14_method_28_code 16 = .ok (.iconst 3, 1) := by decide +kernel
theorem d_X12_readsOyster_17 : decode prog_14_method_28_code 17 = .ok (.aload_n 0, 1) := by decide +kernel
theorem d_X12_readsOyster_18 : decode prog_14_method_28_code 18 = .ok (.getfield 161, 3) := by decide +kernel
theorem d_X12_readsOyster_21 : decode prog_14_method_28_code 21 = .ok (.imul, 1) := by decide +kernel
theorem d_X12_readsOyster_22 : decode prog_14_method_28_code 22 = .ok (.istore_n 1, 1) := by decide +kernel
theorem d_X12_readsOyster_23 : decode prog_14_method_28_code 23 = .ok (.aload_n 0, 1) := by decide +kernel
theorem d_X12_readsOyster_24 : decode prog_14_method_28_code 24 = .ok (.getfield 26, 3) := by decide +kernel
theorem d_X12_readsOyster_27 : decode prog_14_method_28_code 27 = .ok (.iload_n 1, 1) := by decide +kernel
theorem d_X12_readsOyster_28 : decode prog_14_method_28_code 28 = .ok (.aload_n 0, 1) := by decide +kernel
theorem d_X12_readsOyster_29 : decode prog_14_method_28_code 29 = .ok (.ldc 164, 2) := by decide +kernel
theorem d_X12_readsOyster_31 : decode prog_14_method_28_code 31 = .ok (.invokevirtual 166, 3) := by decide +kernel
theorem d_X12_readsOyster_34 : decode prog_14_method_28_code 34 = .ok (.iastore, 1) := by decide +kernel
theorem d_X12_readsOyster_35 : decode prog_14_method_28_code 35 = .ok (.aload_n 0, 1) := by decide +kernel
theorem d_X12_readsOyster_36 : decode prog_14_method_28_code 36 = .ok (.getfield 26, 3) := by decide +kernel
theorem d_X12_readsOyster_39 : decode prog_14_method_28_code 39 = .ok (.iload_n 1, 1) := by decide +kernel
theorem d_X12_readsOyster_40 : decode prog_14_method_28_code 40 = .ok (.iconst 1, 1) := by decide +kernel
theorem d_X12_readsOyster_41 : decode prog_14_method_28_code 41 = .ok (.iadd, 1) := by decide +kernel
theorem d_X12_readsOyster_42 : decode prog_14_method_28_code 42 = .ok (.aload_n 0, 1) := by decide +kernel
theorem d_X12_readsOyster_43 : decode prog_14_method_28_code 43 = .ok (.getfield 26, 3) := by decide +kernel
theorem d_X12_readsOyster_46 : decode prog_14_method_28_code 46 = .ok (.iload_n 1, 1) := by decide +kernel
theorem d_X12_readsOyster_47 : decode prog_14_method_28_code 47 = .ok (.iaload, 1) := by decide +kernel
theorem d_X12_readsOyster_48 : decode prog_14_method_28_code 48 = .ok (.ifCond .ge 7, 3) := by decide +kernel
theorem d_X12_readsOyster_51 : decode prog_14_method_28_code 51 = .ok (.iconst (-1), 1) := by decide +kernel
theorem d_X12_readsOyster_52 : decode prog_14_method_28_code 52 = .ok (.goto 8, 3) := by decide +kernel
theorem d_X12_readsOyster_55 : decode prog_14_method_28_code 55 = .ok (.aload_n 0, 1) := by decide +kernel
theorem d_X12_readsOyster_56 : decode prog_14_method_28_code 56 = .ok (.iconst 1, 1) := by decide +kernel
theorem d_X12_readsOyster_57 : decode prog_14_method_28_code 57 = .ok (.invokevirtual 157, 3) := by decide +kernel
theorem d_X12_readsOyster_60 : decode prog_14_method_28_code 60 = .ok (.iastore, 1) := by decide +kernel
theorem d_X12_readsOyster_61 : decode prog_14_method_28_code 61 = .ok (.aload_n 0, 1) := by decide +kernel
theorem d_X12_readsOyster_62 : decode prog_14_method_28_code 62 = .ok (.getfield 26, 3) := by decide +kernel
theorem d_X12_readsOyster_65 : decode prog_14_method_28_code 65 = .ok (.iload_n 1, 1) := by decide +kernel
theorem d_X12_readsOyster_66 : decode prog_14_method_28_code 66 = .ok (.iconst 2, 1) := by decide +kernel
theorem d_X12_readsOyster_67 : decode prog_14_method_28_code 67 = .ok (.iadd, 1) := by decide +kernel
theorem d_X12_readsOyster_68 : decode prog_14_method_28_code 68 = .ok (.aload_n 0, 1) := by decide +kernel
theorem d_X12_readsOyster_69 : decode prog_14_method_28_code 69 = .ok (.getfield 26, 3) := by decide +kernel
theorem d_X12_readsOyster_72 : decode prog_14_method_28_code 72 = .ok (.iload_n 1, 1) := by decide +kernel
theorem d_X12_readsOyster_73 : decode prog_14_method_28_code 73 = .ok (.iconst 1, 1) := by decide +kernel
theorem d_X12_readsOyster_74 : decode prog_14_method_28_code 74 = .ok (.iadd, 1) := by decide +kernel
theorem d_X12_readsOyster_75 : decode prog_14_method_28_code 75 = .ok (.iaload, 1) := by decide +kernel
theorem d_X12_readsOyster_76 : decode prog_14_method_28_code 76 = .ok (.ifCond .ge 7, 3) := by decide +kernel
theorem d_X12_readsOyster_79 : decode prog_14_method_28_code 79 = .ok (.iconst (-1), 1) := by decide +kernel
theorem d_X12_readsOyster_80 : decode prog_14_method_28_code 80 = .ok (.goto 7, 3) := by decide +kernel
theorem d_X12_readsOyster_83 : decode prog_14_method_28_code 83 = .ok (.aload_n 0, 1) := by decide +kernel
theorem d_X12_readsOyster_84 : decode prog_14_method_28_code 84 = .ok (.invokevirtual 170, 3) := by decide +kernel
theorem d_X12_readsOyster_87 : decode prog_14_method_28_code 87 = .ok (.iastore, 1) := by decide +kernel
theorem d_X12_readsOyster_88 : decode prog_14_method_28_code 88 = .ok (.aload_n 0, 1) := by decide +kernel
theorem d_X12_readsOyster_89 : decode prog_14_method_28_code 89 = .ok (.getfield 26, 3) := by decide +kernel
theorem d_X12_readsOyster_92 : decode prog_14_method_28_code 92 = .ok (.iload_n 1, 1) := by decide +kernel
theorem d_X12_readsOyster_93 : decode prog_14_method_28_code 93 = .ok (.iconst 2, 1) := by decide +kernel
theorem d_X12_readsOyster_94 : decode prog_14_method_28_code 94 = .ok (.iadd, 1) := by decide +kernel
theorem d_X12_readsOyster_95 : decode prog_14_method_28_code 95 = .ok (.iaload, 1) := by decide +kernel
theorem d_X12_readsOyster_96 : decode prog_14_method_28_code 96 = .ok (.bipush 16, 2) := by decide +kernel
theorem d_X12_readsOyster_98 : decode prog_14_method_28_code 98 = .ok (.if_icmp .lt 15, 3) := by decide +kernel
theorem d_X12_readsOyster_101 : decode prog_14_method_28_code 101 = .ok (.aload_n 0, 1) := by decide +kernel
theorem d_X12_readsOyster_102 : decode prog_14_method_28_code 102 = .ok (.dup, 1) := by decide +kernel
theorem d_X12_readsOyster_103 : decode prog_14_method_28_code 103 = .ok (.getfield 120, 3) := by decide +kernel
theorem d_X12_readsOyster_106 : decode prog_14_method_28_code 106 = .ok (.iconst 1, 1) := by decide +kernel
theorem d_X12_readsOyster_107 : decode prog_14_method_28_code 107 = .ok (.isub, 1) := by decide +kernel
theorem d_X12_readsOyster_108 : decode prog_14_method_28_code 108 = .ok (.putfield 120, 3) := by decide +kernel
theorem d_X12_readsOyster_111 : decode prog_14_method_28_code 111 = .ok (.iconst 0, 1) := by decide +kernel
theorem d_X12_readsOyster_112 : decode prog_14_method_28_code 112 = .ok (.ireturn, 1) := by decide +kernel
theorem d_X12_readsOyster_113 : decode prog_14_method_28_code 113 = .ok (.aload_n 0, 1) := by decide +kernel
theorem d_X12_readsOyster_114 : decode prog_14_method_28_code 114 = .ok (.dup, 1) := by decide +kernel
theorem d_X12_readsOyster_115 : decode prog_14_method_28_code 115 = .ok (.getfield 161, 3) := by decide +kernel
theorem d_X12_readsOyster_118 : decode prog_14_method_28_code 118 = .ok (.iconst 1, 1) := by decide +kernel
theorem d_X12_readsOyster_119 : decode prog_14_method_28_code 119 = .ok (.iadd, 1) := by decide +kernel
theorem d_X12_readsOyster_120 : decode prog_14_method_28_code 120 = .ok (.putfield 161, 3) := by decide +kernel
theorem d_X12_readsOyster_123 : decode prog_14_method_28_code 123 = .ok (.aload_n 0, 1) := by decide +kernel
theorem d_X12_readsOyster_124 : decode prog_14_method_28_code 124 = .ok (.getfield 26, 3) := by decide +kernel
theorem d_X12_readsOyster_127 : decode prog_14_method_28_code 127 = .ok (.iload_n 1, 1) := by decide +kernel
theorem d_X12_readsOyster_128 : decode prog_14_method_28_code 128 = .ok (.iconst 2, 1) := by decide +kernel
theorem d_X12_readsOyster_129 : decode prog_14_method_28_code 129 = .ok (.iadd, 1) := by decide +kernel
theorem d_X12_readsOyster_130 : decode prog_14_method_28_code 130 = .ok (.iaload, 1) := by decide +kernel
theorem d_X12_readsOyster_131 : decode prog_14_method_28_code 131 = .ok (.ifCond .lt 7, 3) := by decide +kernel
theorem d_X12_readsOyster_134 : decode prog_14_method_28_code 134 = .ok (.iconst 1, 1) := by decide +kernel
theorem d_X12_readsOyster_135 : decode prog_14_method_28_code 135 = .ok (.goto 4, 3) := by decide +kernel
theorem d_X12_readsOyster_138 : decode prog_14_method_28_code 138 = .ok (.iconst 0, 1) := by decide +kernel
theorem d_X12_readsOyster_139 : decode prog_14_method_28_code 139 = .ok (.ireturn, 1) := by decide +kernel
def f_X12_readsOyster_j87 (τ : St) (x1 : Int32) (s1 : Int32) (s2 : Int32) : Option (Int32 × St) := gd (inb s1 24) (gd (inb (x1 + (2 : Int32)) 24) ((if (cA (sA τ 313 s1.toNatClampNeg s2) 313 (x1 + (2 : Int32)).toNatClampNeg) < (16 : Int32) then gd (inb (x1 + (2 : Int32)) 24) (some ((if (cA (sF (sA τ 313 s1.toNatClampNeg s2) 300 14 ((cF (sA τ 313 s1.toNatClampNeg s2) 300 14) + (1 : Int32))) 313 (x1 + (2 : Int32)).toNatClampNeg) < 0 then (0 : Int32) else (1 : Int32)), (sF (sA τ 313 s1.toNatClampNeg s2) 300 14 ((cF (sA τ 313 s1.toNatClampNeg s2) 300 14) + (1 : Int32))))) else some ((0 : Int32), (sF (sA τ 313 s1.toNatClampNeg s2) 300 10 ((cF (sA τ 313 s1.toNatClampNeg s2) 300 10) - (1 : Int32)))))))
def f_X12_readsOyster_j60 (τ : St) (x1 : Int32) (s1 : Int32) (s2 : Int32) : Option (Int32 × St) := gd (inb s1 24) (gd (inb (x1 + (1 : Int32)) 24) ((if 0 ≤ (cA (sA τ 313 s1.toNatClampNeg s2) 313 (x1 + (1 : Int32)).toNatClampNeg) then (f_X12_twoDigits (sA τ 313 s1.toNatClampNeg s2)).bind (fun q9 => f_X12_readsOyster_j87 q9.2 x1 (x1 + (2 : Int32)) q9.1) else f_X12_readsOyster_j87 (sA τ 313 s1.toNatClampNeg s2) x1 (x1 + (2 : Int32)) (-1 : Int32))))
def f_X12_readsOyster (σ : St) : Option (Int32 × St) := (if ((cF σ 300 3) + (cF σ 300 14)) = (8 : Int32) then some ((0 : Int32), σ) else (f_X12_takesOf σ 3).bind (fun q1 => gd (inb ((3 : Int32) * (cF σ 300 14)) 24) (gd (inb ((3 : Int32) * (cF σ 300 14)) 24) ((if 0 ≤ (cA (sA q1.2 313 ((3 : Int32) * (cF σ 300 14)).toNatClampNeg q1.1) 313 ((3 : Int32) * (cF σ 300 14)).toNatClampNeg) then (f_X12_number (sA q1.2 313 ((3 : Int32) * (cF σ 300 14)).toNatClampNeg q1.1) (1 : Int32)).bind (fun q5 => f_X12_readsOyster_j60 q5.2 ((3 : Int32) * (cF σ 300 14)) (((3 : Int32) * (cF σ 300 14)) + (1 : Int32)) q5.1) else f_X12_readsOyster_j60 (sA q1.2 313 ((3 : Int32) * (cF σ 300 14)).toNatClampNeg q1.1) ((3 : Int32) * (cF σ 300 14)) (((3 : Int32) * (cF σ 300 14)) + (1 : Int32)) (-1 : Int32))))))
theorem c_X12_readsOyster {l : Launch} {G : gT} {χ σ : St} (hf : FW G) {q : Int32 × St} (h : f_X12_readsOyster σ = some q) : Ct l G yX12_readsOyster prog_14_method_28_code 2 (some .boolean) 7 242 [.ref (ga G 300)] χ σ (some (.int q.1)) χ q.2 := by
  refine Ct.of (by decide) (Nat.le_of_ble_eq_true rfl) ?_
  intro p e s m args below meth c Q X hr hlk hQ
  have hx := X.1
  have hb := X.2.1
  have j87 : ∀ (τ : St) (x1 : Int32) (s1 : Int32) (s2 : Int32), f_X12_readsOyster_j87 τ x1 s1 s2 = some q → Wat p l e (rmk 7 242) s m args below meth c Q G 2 87 [.int s2, .int s1, .ref (ga G 313)] [(0, .ref (ga G 300)), (1, .int x1)] χ τ := by
    intro τ x1 s1 s2 h H locs ls hw hl
    unfold f_X12_readsOyster_j87 at h
    obtain ⟨hi11, h⟩ := gd_some h
    refine m_iast X hw (o_313 hf) (Nat.le_of_ble_eq_true rfl) hi11 d_X12_readsOyster_87 (fun H locs hw => ?_)
    refine lv_aload_n hx hb d_X12_readsOyster_88 rfl (lv_at hl 0 rfl) ?_
    refine r_getr (j := 13) X hw ct8 (o_300 hf) rfl (Nat.le_of_ble_eq_true rfl) (q := 313) rfl wd_969 d_X12_readsOyster_89 ?_
    refine lv_iload_n hx hb d_X12_readsOyster_92 rfl (lv_at hl 1 rfl) ?_
    refine lv_iconst (v := (2 : Int32)) hx hb d_X12_readsOyster_93 (by decide) ?_
    refine lv_iadd hx hb d_X12_readsOyster_94 ?_
    obtain ⟨hi12, h⟩ := gd_some h
    refine m_iald X hw (o_313 hf) (Nat.le_of_ble_eq_true rfl) hi12 d_X12_readsOyster_95 ?_
    refine lv_bipush (v := (16 : Int32)) hx hb d_X12_readsOyster_96 (by decide) ?_
    refine lv_icmp_lt (tgt := 113) hx hb d_X12_readsOyster_98 (by decide) (fun hc => ?_) (fun hc => ?_)
    · have h := ite_t h hc
      refine lv_aload_n hx hb d_X12_readsOyster_113 rfl (lv_at hl 0 rfl) ?_
      refine lv_dup hx hb d_X12_readsOyster_114 rfl ?_
      refine m_geti (j := 14) X hw ct8 (o_300 hf) (Nat.le_of_ble_eq_true rfl) rfl (Nat.le_of_ble_eq_true rfl) wd_970 d_X12_readsOyster_115 ?_
      refine lv_iconst (v := (1 : Int32)) hx hb d_X12_readsOyster_118 (by decide) ?_
      refine lv_iadd hx hb d_X12_readsOyster_119 ?_
      refine m_puti (j := 14) X hw ct8 (o_300 hf) (Nat.le_of_ble_eq_true rfl) rfl (Nat.le_of_ble_eq_true rfl) rfl rfl rfl wd_970 d_X12_readsOyster_120 (fun H locs hw => ?_)
      refine lv_aload_n hx hb d_X12_readsOyster_123 rfl (lv_at hl 0 rfl) ?_
      refine r_getr (j := 13) X hw ct8 (o_300 hf) rfl (Nat.le_of_ble_eq_true rfl) (q := 313) rfl wd_969 d_X12_readsOyster_124 ?_
      refine lv_iload_n hx hb d_X12_readsOyster_127 rfl (lv_at hl 1 rfl) ?_
      refine lv_iconst (v := (2 : Int32)) hx hb d_X12_readsOyster_128 (by decide) ?_
      refine lv_iadd hx hb d_X12_readsOyster_129 ?_
      obtain ⟨hi13, h⟩ := gd_some h
      refine m_iald X hw (o_313 hf) (Nat.le_of_ble_eq_true rfl) hi13 d_X12_readsOyster_130 ?_
      refine lv_if_lt (tgt := 138) hx hb d_X12_readsOyster_131 (by decide) (fun hc => ?_) (fun hc => ?_)
      · simp only [if_pos hc] at h
        refine lv_iconst (v := (0 : Int32)) hx hb d_X12_readsOyster_138 (by decide) ?_
        obtain rfl := Option.some.inj h
        subst hQ
        exact r_zret X hr nbz0 hlk hw d_X12_readsOyster_139
      · simp only [if_neg hc] at h
        refine lv_iconst (v := (1 : Int32)) hx hb d_X12_readsOyster_134 (by decide) ?_
        refine lv_goto (tgt := 139) hx hb d_X12_readsOyster_135 (by decide) ?_
        obtain rfl := Option.some.inj h
        subst hQ
        exact r_zret X hr nbz1 hlk hw d_X12_readsOyster_139
    · have h := ite_f h hc
      refine lv_aload_n hx hb d_X12_readsOyster_101 rfl (lv_at hl 0 rfl) ?_
      refine lv_dup hx hb d_X12_readsOyster_102 rfl ?_
      refine m_geti (j := 10) X hw ct8 (o_300 hf) (Nat.le_of_ble_eq_true rfl) rfl (Nat.le_of_ble_eq_true rfl) wd_966 d_X12_readsOyster_103 ?_
      refine lv_iconst (v := (1 : Int32)) hx hb d_X12_readsOyster_106 (by decide) ?_
      refine lv_isub hx hb d_X12_readsOyster_107 ?_
      refine m_puti (j := 10) X hw ct8 (o_300 hf) (Nat.le_of_ble_eq_true rfl) rfl (Nat.le_of_ble_eq_true rfl) rfl rfl rfl wd_966 d_X12_readsOyster_108 (fun H locs hw => ?_)
      refine lv_iconst (v := (0 : Int32)) hx hb d_X12_readsOyster_111 (by decide) ?_
      obtain rfl := Option.some.inj h
      subst hQ
      exact r_zret X hr nbz0 hlk hw d_X12_readsOyster_112
  have j60 : ∀ (τ : St) (x1 : Int32) (s1 : Int32) (s2 : Int32), f_X12_readsOyster_j60 τ x1 s1 s2 = some q → Wat p l e (rmk 7 242) s m args below meth c Q G 2 60 [.int s2, .int s1, .ref (ga G 313)] [(0, .ref (ga G 300)), (1, .int x1)] χ τ := by
    intro τ x1 s1 s2 h H locs ls hw hl
    unfold f_X12_readsOyster_j60 at h
    obtain ⟨hi7, h⟩ := gd_some h
    refine m_iast X hw (o_313 hf) (Nat.le_of_ble_eq_true rfl) hi7 d_X12_readsOyster_60 (fun H locs hw => ?_)
    refine lv_aload_n hx hb d_X12_readsOyster_61 rfl (lv_at hl 0 rfl) ?_
    refine r_getr (j := 13) X hw ct8 (o_300 hf) rfl (Nat.le_of_ble_eq_true rfl) (q := 313) rfl wd_969 d_X12_readsOyster_62 ?_
    refine lv_iload_n hx hb d_X12_readsOyster_65 rfl (lv_at hl 1 rfl) ?_
    refine lv_iconst (v := (2 : Int32)) hx hb d_X12_readsOyster_66 (by decide) ?_
    refine lv_iadd hx hb d_X12_readsOyster_67 ?_
    refine lv_aload_n hx hb d_X12_readsOyster_68 rfl (lv_at hl 0 rfl) ?_
    refine r_getr (j := 13) X hw ct8 (o_300 hf) rfl (Nat.le_of_ble_eq_true rfl) (q := 313) rfl wd_969 d_X12_readsOyster_69 ?_
    refine lv_iload_n hx hb d_X12_readsOyster_72 rfl (lv_at hl 1 rfl) ?_
    refine lv_iconst (v := (1 : Int32)) hx hb d_X12_readsOyster_73 (by decide) ?_
    refine lv_iadd hx hb d_X12_readsOyster_74 ?_
    obtain ⟨hi8, h⟩ := gd_some h
    refine m_iald X hw (o_313 hf) (Nat.le_of_ble_eq_true rfl) hi8 d_X12_readsOyster_75 ?_
    refine lv_if_ge (tgt := 83) hx hb d_X12_readsOyster_76 (by decide) (fun hc => ?_) (fun hc => ?_)
    · have h := ite_t h hc
      refine lv_aload_n hx hb d_X12_readsOyster_83 rfl (lv_at hl 0 rfl) ?_
      obtain ⟨q9, e10, h⟩ := bd_some h
      refine r_callV (As := []) (rest := [.int (x1 + (2 : Int32)), .ref (ga G 313)]) (st' := [.int q9.1, .int (x1 + (2 : Int32)), .ref (ga G 313)]) X hw hl mwX12_twoDigits wd_1173 wp_21 wd_1171 (c_X12_twoDigits hf e10) (r_recv X hw ct8 (o_300 hf)) rfl ⟨Nat.le_of_ble_eq_true rfl, Nat.le_of_ble_eq_true rfl⟩ ⟨Nat.le_refl _, Nat.le_refl _⟩ rfl rfl (Nat.le_of_ble_eq_true rfl) d_X12_readsOyster_84 (fun H locs hw => ?_)
      exact j87 q9.2 x1 (x1 + (2 : Int32)) q9.1 h _ _ _ hw (lv_sub hl [0, 1] rfl)
    · have h := ite_f h hc
      refine lv_iconst (v := (-1 : Int32)) hx hb d_X12_readsOyster_79 (by decide) ?_
      refine lv_goto (tgt := 87) hx hb d_X12_readsOyster_80 (by decide) ?_
      exact j87 (sA τ 313 s1.toNatClampNeg s2) x1 (x1 + (2 : Int32)) (-1 : Int32) h _ _ _ hw (lv_sub hl [0, 1] rfl)
  intro H locs ls hw hl
  have hl : lv_has ls 2 [(0, .ref (ga G 300))] := hl
  unfold f_X12_readsOyster at h
  refine lv_aload_n hx hb d_X12_readsOyster_0 rfl (lv_at hl 0 rfl) ?_
  refine m_geti (j := 3) X hw ct8 (o_300 hf) (Nat.le_of_ble_eq_true rfl) rfl (Nat.le_of_ble_eq_true rfl) wd_959 d_X12_readsOyster_1 ?_
  refine lv_aload_n hx hb d_X12_readsOyster_4 rfl (lv_at hl 0 rfl) ?_
  refine m_geti (j := 14) X hw ct8 (o_300 hf) (Nat.le_of_ble_eq_true rfl) rfl (Nat.le_of_ble_eq_true rfl) wd_970 d_X12_readsOyster_5 ?_
  refine lv_iadd hx hb d_X12_readsOyster_8 ?_
  refine lv_bipush (v := (8 : Int32)) hx hb d_X12_readsOyster_9 (by decide) ?_
  refine lv_icmp_ne (tgt := 16) hx hb d_X12_readsOyster_11 (by decide) (fun hc => ?_) (fun hc => ?_)
  · have h := ite_f h hc
    refine lv_iconst (v := (3 : Int32)) hx hb d_X12_readsOyster_16 (by decide) ?_
    refine lv_aload_n hx hb d_X12_readsOyster_17 rfl (lv_at hl 0 rfl) ?_
    refine m_geti (j := 14) X hw ct8 (o_300 hf) (Nat.le_of_ble_eq_true rfl) rfl (Nat.le_of_ble_eq_true rfl) wd_970 d_X12_readsOyster_18 ?_
    refine lv_imul hx hb d_X12_readsOyster_21 ?_
    refine lv_istore_n (lv' := [(1, .int ((3 : Int32) * (cF σ 300 14))), (0, .ref (ga G 300))]) hx hb d_X12_readsOyster_22 rfl hl (Nat.le_of_ble_eq_true rfl) rfl (fun ls hl => ?_)
    refine lv_aload_n hx hb d_X12_readsOyster_23 rfl (lv_at hl 1 rfl) ?_
    refine r_getr (j := 13) X hw ct8 (o_300 hf) rfl (Nat.le_of_ble_eq_true rfl) (q := 313) rfl wd_969 d_X12_readsOyster_24 ?_
    refine lv_iload_n hx hb d_X12_readsOyster_27 rfl (lv_at hl 0 rfl) ?_
    refine lv_aload_n hx hb d_X12_readsOyster_28 rfl (lv_at hl 1 rfl) ?_
    refine va_ldcS hx hb X.2.2.2.1 X.2.2.2.2.2.2.2.2.2.2.2.2.2.2.2.2.2.2.1 d_X12_readsOyster_29 ?_
    obtain ⟨q1, e2, h⟩ := bd_some h
    refine r_callV (As := [.ref (gK G 3)]) (rest := [.int ((3 : Int32) * (cF σ 300 14)), .ref (ga G 313)]) (st' := [.int q1.1, .int ((3 : Int32) * (cF σ 300 14)), .ref (ga G 313)]) X hw hl mwX12_takesOf wd_1111 wp_18 wd_1109 (c_X12_takesOf hf (Nat.le_of_ble_eq_true rfl) e2) (r_recv X hw ct8 (o_300 hf)) rfl ⟨Nat.le_of_ble_eq_true rfl, Nat.le_of_ble_eq_true rfl⟩ ⟨Nat.le_refl _, Nat.le_refl _⟩ rfl rfl (Nat.le_of_ble_eq_true rfl) d_X12_readsOyster_31 (fun H locs hw => ?_)
    obtain ⟨hi3, h⟩ := gd_some h
    refine m_iast X hw (o_313 hf) (Nat.le_of_ble_eq_true rfl) hi3 d_X12_readsOyster_34 (fun H locs hw => ?_)
    refine lv_aload_n hx hb d_X12_readsOyster_35 rfl (lv_at hl 1 rfl) ?_
    refine r_getr (j := 13) X hw ct8 (o_300 hf) rfl (Nat.le_of_ble_eq_true rfl) (q := 313) rfl wd_969 d_X12_readsOyster_36 ?_
    refine lv_iload_n hx hb d_X12_readsOyster_39 rfl (lv_at hl 0 rfl) ?_
    refine lv_iconst (v := (1 : Int32)) hx hb d_X12_readsOyster_40 (by decide) ?_
    refine lv_iadd hx hb d_X12_readsOyster_41 ?_
    refine lv_aload_n hx hb d_X12_readsOyster_42 rfl (lv_at hl 1 rfl) ?_
    refine r_getr (j := 13) X hw ct8 (o_300 hf) rfl (Nat.le_of_ble_eq_true rfl) (q := 313) rfl wd_969 d_X12_readsOyster_43 ?_
    refine lv_iload_n hx hb d_X12_readsOyster_46 rfl (lv_at hl 0 rfl) ?_
    obtain ⟨hi4, h⟩ := gd_some h
    refine m_iald X hw (o_313 hf) (Nat.le_of_ble_eq_true rfl) hi4 d_X12_readsOyster_47 ?_
    refine lv_if_ge (tgt := 55) hx hb d_X12_readsOyster_48 (by decide) (fun hc => ?_) (fun hc => ?_)
    · have h := ite_t h hc
      refine lv_aload_n hx hb d_X12_readsOyster_55 rfl (lv_at hl 1 rfl) ?_
      refine lv_iconst (v := (1 : Int32)) hx hb d_X12_readsOyster_56 (by decide) ?_
      obtain ⟨q5, e6, h⟩ := bd_some h
      refine r_callV (As := [.int (1 : Int32)]) (rest := [.int (((3 : Int32) * (cF σ 300 14)) + (1 : Int32)), .ref (ga G 313)]) (st' := [.int q5.1, .int (((3 : Int32) * (cF σ 300 14)) + (1 : Int32)), .ref (ga G 313)]) X hw hl mwX12_number wd_1163 wp_19 wd_1161 (c_X12_number hf e6) (r_recv X hw ct8 (o_300 hf)) rfl ⟨Nat.le_of_ble_eq_true rfl, Nat.le_of_ble_eq_true rfl⟩ ⟨Nat.le_refl _, Nat.le_refl _⟩ rfl rfl (Nat.le_of_ble_eq_true rfl) d_X12_readsOyster_57 (fun H locs hw => ?_)
      exact j60 q5.2 ((3 : Int32) * (cF σ 300 14)) (((3 : Int32) * (cF σ 300 14)) + (1 : Int32)) q5.1 h _ _ _ hw (lv_sub hl [1, 0] rfl)
    · have h := ite_f h hc
      refine lv_iconst (v := (-1 : Int32)) hx hb d_X12_readsOyster_51 (by decide) ?_
      refine lv_goto (tgt := 60) hx hb d_X12_readsOyster_52 (by decide) ?_
      exact j60 (sA q1.2 313 ((3 : Int32) * (cF σ 300 14)).toNatClampNeg q1.1) ((3 : Int32) * (cF σ 300 14)) (((3 : Int32) * (cF σ 300 14)) + (1 : Int32)) (-1 : Int32) h _ _ _ hw (lv_sub hl [1, 0] rfl)
  · have h := ite_t h hc
    refine lv_iconst (v := (0 : Int32)) hx hb d_X12_readsOyster_14 (by decide) ?_
    obtain rfl := Option.some.inj h
    subst hQ
    exact r_zret X hr nbz0 hlk hw d_X12_readsOyster_15
abbrev yX12_oysters : MethodName := ⟨"OysterBedsModel", "oysters", "()I"⟩
theorem mwX12_oysters : MW yX12_oysters prog_14_method_29_code 6 (some .int) 0 := ⟨wd_1098, wd_10, by decide +kernel⟩
theorem d_X12_oysters_0 : decode prog_14_method_29_code 0 = .ok (.aload_n 0, 1) := by decide +kernel
theorem d_X12_oysters_1 : decode prog_14_method_29_code 1 = .ok (.iconst 0, 1) := by decide +kernel
theorem d_X12_oysters_2 : decode prog_14_method_29_code 2 = .ok (.putfield 87, 3) := by decide +kernel
theorem d_X12_oysters_5 : decode prog_14_method_29_code 5 = .ok (.aload_n 0, 1) := by decide +kernel
theorem d_X12_oysters_6 : decode prog_14_method_29_code 6 = .ok (.bipush 39, 2) := by decide +kernel
theorem d_X12_oysters_8 : decode prog_14_method_29_code 8 = .ok (.invokevirtual 173, 3) := by decide +kernel
theorem d_X12_oysters_11 : decode prog_14_method_29_code 11 = .ok (.istore_n 1, 1) := by decide +kernel
theorem d_X12_oysters_12 : decode prog_14_method_29_code 12 = .ok (.aload_n 0, 1) := by decide +kernel
theorem d_X12_oysters_13 : decode prog_14_method_29_code 13 = .ok (.iconst 0, 1) := by decide +kernel
theorem d_X12_oysters_14 : decode prog_14_method_29_code 14 = .ok (.putfield 161, 3) := by decide +kernel
theorem d_X12_oysters_17 : decode prog_14_method_29_code 17 = .ok (.iconst 1, 1) := by decide +kernel
theorem d_X12_oysters_18 : decode prog_14_method_29_code 18 = .ok (.istore_n 2, 1) := by decide +kernel
theorem d_X12_oysters_19 : decode prog_14_method_29_code 19 = .ok (.iload_n 1, 1) := by decide +kernel
theorem d_X12_oysters_20 : decode prog_14_method_29_code 20 = .ok (.ifCond .le 7, 3) := by decide +kernel
theorem d_X12_oysters_23 : decode prog_14_method_29_code 23 = .ok (.iconst 1, 1) := by decide +kernel
theorem d_X12_oysters_24 : decode prog_14_method_29_code 24 = .ok (.goto 4, 3) := by decide +kernel
theorem d_X12_oysters_27 : decode prog_14_method_29_code 27 = .ok (.iconst 0, 1) := by decide +kernel
theorem d_X12_oysters_28 : decode prog_14_method_29_code 28 = .ok (.istore_n 3, 1) := by decide +kernel
theorem d_X12_oysters_29 : decode prog_14_method_29_code 29 = .ok (.iload_n 3, 1) := by decide +kernel
theorem d_X12_oysters_30 : decode prog_14_method_29_code 30 = .ok (.ifCond .eq 30, 3) := by decide +kernel
theorem d_X12_oysters_33 : decode prog_14_method_29_code 33 = .ok (.aload_n 0, 1) := by decide +kernel
theorem d_X12_oysters_34 : decode prog_14_method_29_code 34 = .ok (.invokevirtual 176, 3) := by decide +kernel
theorem d_X12_oysters_37 : decode prog_14_method_29_code 37 = .ok (.istore_n 2, 1) := by decide +kernel
theorem d_X12_oysters_38 : decode prog_14_method_29_code 38 = .ok (.iload_n 2, 1) := by decide +kernel
theorem d_X12_oysters_39 : decode prog_14_method_29_code 39 = .ok (.ifCond .eq 16, 3) := by decide +kernel
theorem d_X12_oysters_42 : decode prog_14_method_29_code 42 = .ok (.aload_n 0, 1) := by decide +kernel
theorem d_X12_oysters_43 : decode prog_14_method_29_code 43 = .ok (.bipush 59, 2) := by decide +kernel
theorem d_X12_oysters_45 : decode prog_14_method_29_code 45 = .ok (.invokevirtual 179, 3) := by decide +kernel
theorem d_X12_oysters_48 : decode prog_14_method_29_code 48 = .ok (.ifCond .eq 7, 3) := by decide +kernel
theorem d_X12_oysters_51 : decode prog_14_method_29_code 51 = .ok (.iconst 1, 1) := by decide +kernel
theorem d_X12_oysters_52 : decode prog_14_method_29_code 52 = .ok (.goto 4, 3) := by decide +kernel
theorem d_X12_oysters_55 : decode prog_14_method_29_code 55 = .ok (.iconst 0, 1) := by decide +kernel
theorem d_X12_oysters_56 : decode prog_14_method_29_code 56 = .ok (.istore_n 3, 1) := by decide +kernel
theorem d_X12_oysters_57 : decode prog_14_method_29_code 57 = .ok (.goto (-28), 3) := by decide +kernel
theorem d_X12_oysters_60 : decode prog_14_method_29_code 60 = .ok (.aload_n 0, 1) := by decide +kernel
theorem d_X12_oysters_61 : decode prog_14_method_29_code 61 = .ok (.iload_n 1, 1) := by decide +kernel
theorem d_X12_oysters_62 : decode prog_14_method_29_code 62 = .ok (.bipush 39, 2) := by decide +kernel
theorem d_X12_oysters_64 : decode prog_14_method_29_code 64 = .ok (.iload_n 2, 1) := by decide +kernel
theorem d_X12_oysters_65 : decode prog_14_method_29_code 65 = .ok (.invokevirtual 183, 3) := by decide +kernel
theorem d_X12_oysters_68 : decode prog_14_method_29_code 68 = .ok (.istore 4, 2) := by decide +kernel
theorem d_X12_oysters_70 : decode prog_14_method_29_code 70 = .ok (.iload 4, 2) := by decide +kernel
theorem d_X12_oysters_72 : decode prog_14_method_29_code 72 = .ok (.ifCond .ge 6, 3) := by decide +kernel
theorem d_X12_oysters_75 : decode prog_14_method_29_code 75 = .ok (.iload 4, 2) := by decide +kernel
theorem d_X12_oysters_77 : decode prog_14_method_29_code 77 = .ok (.ireturn, 1) := by decide +kernel
theorem d_X12_oysters_78 : decode prog_14_method_29_code 78 = .ok (.iconst 0, 1) := by decide +kernel
theorem d_X12_oysters_79 : decode prog_14_method_29_code 79 = .ok (.istore 5, 2) := by decide +kernel
theorem d_X12_oysters_81 : decode prog_14_method_29_code 81 = .ok (.iload 5, 2) := by decide +kernel
theorem d_X12_oysters_83 : decode prog_14_method_29_code 83 = .ok (.aload_n 0, 1) := by decide +kernel
theorem d_X12_oysters_84 : decode prog_14_method_29_code 84 = .ok (.getfield 161, 3) := by decide +kernel
theorem d_X12_oysters_87 : decode prog_14_method_29_code 87 = .ok (.if_icmp .ge 80, 3) := by decide +kernel
theorem d_X12_oysters_90 : decode prog_14_method_29_code 90 = .ok (.aload_n 0, 1) := by decide +kernel
theorem d_X12_oysters_91 : decode prog_14_method_29_code 91 = .ok (.getfield 13, 3) := by decide +kernel
theorem d_X12_oysters_94 : decode prog_14_method_29_code 94 = .ok (.aload_n 0, 1) := by decide +kernel
theorem d_X12_oysters_95 : decode prog_14_method_29_code 95 = .ok (.getfield 102, 3) := by decide +kernel
theorem d_X12_oysters_98 : decode prog_14_method_29_code 98 = .ok (.aload_n 0, 1) := by decide +kernel
theorem d_X12_oysters_99 : decode prog_14_method_29_code 99 = .ok (.getfield 26, 3) := by decide +kernel
theorem d_X12_oysters_102 : decode prog_14_method_29_code 102 = .ok (.iconst 3, 1) := by decide +kernel
theorem d_X12_oysters_103 : decode prog_14_method_29_code 103 = .ok (.iload 5, 2) := by decide +kernel
theorem d_X12_oysters_105 : decode prog_14_method_29_code 105 = .ok (.imul, 1) := by decide +kernel
theorem d_X12_oysters_106 : decode prog_14_method_29_code 106 = .ok (.iaload, 1) := by decide +kernel
theorem d_X12_oysters_107 : decode prog_14_method_29_code 107 = .ok (.iastore, 1) := by decide +kernel
theorem d_X12_oysters_108 : decode prog_14_method_29_code 108 = .ok (.aload_n 0, 1) := by decide +kernel
theorem d_X12_oysters_109 : decode prog_14_method_29_code 109 = .ok (.getfield 17, 3) := by decide +kernel
theorem d_X12_oysters_112 : decode prog_14_method_29_code 112 = .ok (.aload_n 0, 1) := by decide +kernel
theorem d_X12_oysters_113 : decode prog_14_method_29_code 113 = .ok (.getfield 102, 3) := by decide +kernel
theorem d_X12_oysters_116 : decode prog_14_method_29_code 116 = .ok (.aload_n 0, 1) := by decide +kernel
theorem d_X12_oysters_117 : decode prog_14_method_29_code 117 = .ok (.getfield 26, 3) := by decide +kernel
theorem d_X12_oysters_120 : decode prog_14_method_29_code 120 = .ok (.iconst 3, 1) := by decide +kernel
theorem d_X12_oysters_121 : decode prog_14_method_29_code 121 = .ok (.iload 5, 2) := by decide +kernel
theorem d_X12_oysters_123 : decode prog_14_method_29_code 123 = .ok (.imul, 1) := by decide +kernel
theorem d_X12_oysters_124 : decode prog_14_method_29_code 124 = .ok (.iconst 1, 1) := by decide +kernel
theorem d_X12_oysters_125 : decode prog_14_method_29_code 125 = .ok (.iadd, 1) := by decide +kernel
theorem d_X12_oysters_126 : decode prog_14_method_29_code 126 = .ok (.iaload, 1) := by decide +kernel
theorem d_X12_oysters_127 : decode prog_14_method_29_code 127 = .ok (.iastore, 1) := by decide +kernel
theorem d_X12_oysters_128 : decode prog_14_method_29_code 128 = .ok (.aload_n 0, 1) := by decide +kernel
theorem d_X12_oysters_129 : decode prog_14_method_29_code 129 = .ok (.getfield 17, 3) := by decide +kernel
theorem d_X12_oysters_132 : decode prog_14_method_29_code 132 = .ok (.bipush 8, 2) := by decide +kernel
theorem d_X12_oysters_134 : decode prog_14_method_29_code 134 = .ok (.aload_n 0, 1) := by decide +kernel
theorem d_X12_oysters_135 : decode prog_14_method_29_code 135 = .ok (.getfield 102, 3) := by decide +kernel
theorem d_X12_oysters_138 : decode prog_14_method_29_code 138 = .ok (.iadd, 1) := by decide +kernel
theorem d_X12_oysters_139 : decode prog_14_method_29_code 139 = .ok (.aload_n 0, 1) := by decide +kernel
theorem d_X12_oysters_140 : decode prog_14_method_29_code 140 = .ok (.getfield 26, 3) := by decide +kernel
theorem d_X12_oysters_143 : decode prog_14_method_29_code 143 = .ok (.iconst 3, 1) := by decide +kernel
theorem d_X12_oysters_144 : decode prog_14_method_29_code 144 = .ok (.iload 5, 2) := by decide +kernel
theorem d_X12_oysters_146 : decode prog_14_method_29_code 146 = .ok (.imul, 1) := by decide +kernel
theorem d_X12_oysters_147 : decode prog_14_method_29_code 147 = .ok (.iconst 2, 1) := by decide +kernel
theorem d_X12_oysters_148 : decode prog_14_method_29_code 148 = .ok (.iadd, 1) := by decide +kernel
theorem d_X12_oysters_149 : decode prog_14_method_29_code 149 = .ok (.iaload, 1) := by decide +kernel
theorem d_X12_oysters_150 : decode prog_14_method_29_code 150 = .ok (.iastore, 1) := by decide +kernel
theorem d_X12_oysters_151 : decode prog_14_method_29_code 151 = .ok (.aload_n 0, 1) := by decide +kernel
theorem d_X12_oysters_152 : decode prog_14_method_29_code 152 = .ok (.dup, 1) := by decide +kernel
theorem d_X12_oysters_153 : decode prog_14_method_29_code 153 = .ok (.getfield 102, 3) := by decide +kernel
theorem d_X12_oysters_156 : decode prog_14_method_29_code 156 = .ok (.iconst 1, 1) := by decide +kernel
theorem d_X12_oysters_157 : decode prog_14_method_29_code 157 = .ok (.iadd, 1) := by decide +kernel
theorem d_X12_oysters_158 : decode prog_14_method_29_code 158 = .ok (.putfield 102, 3) := by decide +kernel
theorem d_X12_oysters_161 : decode prog_14_method_29_code 161 = .ok (.iinc 5 1, 3) := by decide +kernel
theorem d_X12_oysters_164 : decode prog_14_method_29_code 164 = .ok (.goto (-83), 3) := by decide +kernel
theorem d_X12_oysters_167 : decode prog_14_method_29_code 167 = .ok (.aload_n 0, 1) := by decide +kernel
theorem d_X12_oysters_168 : decode prog_14_method_29_code 168 = .ok (.aload_n 0, 1) := by decide +kernel
theorem d_X12_oysters_169 : decode prog_14_method_29_code 169 = .ok (.getfield 161, 3) := by decide +kernel
theorem d_X12_oysters_172 : decode prog_14_method_29_code 172 = .ok (.ifCond .le 7, 3) := by decide +kernel
theorem d_X12_oysters_175 : decode prog_14_method_29_code 175 = .ok (.iconst 0, 1) := by decide +kernel
theorem d_X12_oysters_176 : decode prog_14_method_29_code 176 = .ok (.goto 7, 3) := by decide +kernel
theorem d_X12_oysters_179 : decode prog_14_method_29_code 179 = .ok (.aload_n 0, 1) := by decide +kernel
theorem d_X12_oysters_180 : decode prog_14_method_29_code 180 = .ok (.getfield 187, 3) := by decide +kernel
theorem d_X12_oysters_183 : decode prog_14_method_29_code 183 = .ok (.putfield 187, 3) := by decide +kernel
theorem d_X12_oysters_186 : decode prog_14_method_29_code 186 = .ok (.aload_n 0, 1) := by decide +kernel
theorem d_X12_oysters_187 : decode prog_14_method_29_code 187 = .ok (.dup, 1) := by decide +kernel
theorem d_X12_oysters_188 : decode prog_14_method_29_code 188 = .ok (.getfield 190, 3) := by decide +kernel
theorem d_X12_oysters_191 : decode prog_14_method_29_code 191 = .ok (.aload_n 0, 1) := by decide +kernel
theorem d_X12_oysters_192 : decode prog_14_method_29_code 192 = .ok (.getfield 161, 3) := by decide +kernel
theorem d_X12_oysters_195 : decode prog_14_method_29_code 195 = .ok (.ifCond .le 7, 3) := by decide +kernel
theorem d_X12_oysters_198 : decode prog_14_method_29_code 198 = .ok (.iconst 1, 1) := by decide +kernel
theorem d_X12_oysters_199 : decode prog_14_method_29_code 199 = .ok (.goto 4, 3) := by decide +kernel
theorem d_X12_oysters_202 : decode prog_14_method_29_code 202 = .ok (.iconst 0, 1) := by decide +kernel
theorem d_X12_oysters_203 : decode prog_14_method_29_code 203 = .ok (.invokestatic 135, 3) := by decide +kernel
theorem d_X12_oysters_206 : decode prog_14_method_29_code 206 = .ok (.iadd, 1) := by decide +kernel
theorem d_X12_oysters_207 : decode prog_14_method_29_code 207 = .ok (.putfield 190, 3) := by decide +kernel
theorem d_X12_oysters_210 : decode prog_14_method_29_code 210 = .ok (.aload_n 0, 1) := by decide +kernel
theorem d_X12_oysters_211 : decode prog_14_method_29_code 211 = .ok (.getfield 161, 3) := by decide +kernel
theorem d_X12_oysters_214 : decode prog_14_method_29_code 214 = .ok (.ireturn, 1) := by decide +kernel
def f_X12_oysters_j56_29 (τ : St) (x1 : Int32) (x2 : Int32) (s0 : Int32) : Option ((Int32 × Int32 × St) ⊕ (Int32 × St)) := some (.inl (x2, s0, τ))
def f_X12_oysters_s29 (τ : St) (y1 : Int32) (x2 : Int32) (x3 : Int32) : Option ((Int32 × Int32 × St) ⊕ (Int32 × St)) := (if x3 = 0 then some (.inr (x2, τ)) else (f_X12_readsOyster τ).bind (fun q3 => (if q3.1 = 0 then f_X12_oysters_j56_29 q3.2 y1 q3.1 (0 : Int32) else (f_X12_takes q3.2 (59 : Int32)).bind (fun q5 => f_X12_oysters_j56_29 q5.2 y1 q3.1 (if q5.1 = 0 then (0 : Int32) else (1 : Int32))))))
def f_X12_oysters_s81 (τ : St) (x5 : Int32) : Option ((Int32 × St) ⊕ (St)) := (if (cF τ 300 14) ≤ x5 then some (.inr τ) else gd (inb ((3 : Int32) * x5) 24) (gd (inb (cF τ 300 3) 8) (gd (inb (((3 : Int32) * x5) + (1 : Int32)) 24) (gd (inb (cF (sA τ 305 (cF τ 300 3).toNatClampNeg (cA τ 313 ((3 : Int32) * x5).toNatClampNeg)) 300 3) 34) (gd (inb (((3 : Int32) * x5) + (2 : Int32)) 24) (gd (inb ((8 : Int32) + (cF (sA (sA τ 305 (cF τ 300 3).toNatClampNeg (cA τ 313 ((3 : Int32) * x5).toNatClampNeg)) 306 (cF (sA τ 305 (cF τ 300 3).toNatClampNeg (cA τ 313 ((3 : Int32) * x5).toNatClampNeg)) 300 3).toNatClampNeg (cA (sA τ 305 (cF τ 300 3).toNatClampNeg (cA τ 313 ((3 : Int32) * x5).toNatClampNeg)) 313 (((3 : Int32) * x5) + (1 : Int32)).toNatClampNeg)) 300 3)) 34) (some (.inl ((x5 + (1 : Int32)), (sF (sA (sA (sA τ 305 (cF τ 300 3).toNatClampNeg (cA τ 313 ((3 : Int32) * x5).toNatClampNeg)) 306 (cF (sA τ 305 (cF τ 300 3).toNatClampNeg (cA τ 313 ((3 : Int32) * x5).toNatClampNeg)) 300 3).toNatClampNeg (cA (sA τ 305 (cF τ 300 3).toNatClampNeg (cA τ 313 ((3 : Int32) * x5).toNatClampNeg)) 313 (((3 : Int32) * x5) + (1 : Int32)).toNatClampNeg)) 306 ((8 : Int32) + (cF (sA (sA τ 305 (cF τ 300 3).toNatClampNeg (cA τ 313 ((3 : Int32) * x5).toNatClampNeg)) 306 (cF (sA τ 305 (cF τ 300 3).toNatClampNeg (cA τ 313 ((3 : Int32) * x5).toNatClampNeg)) 300 3).toNatClampNeg (cA (sA τ 305 (cF τ 300 3).toNatClampNeg (cA τ 313 ((3 : Int32) * x5).toNatClampNeg)) 313 (((3 : Int32) * x5) + (1 : Int32)).toNatClampNeg)) 300 3)).toNatClampNeg (cA (sA (sA τ 305 (cF τ 300 3).toNatClampNeg (cA τ 313 ((3 : Int32) * x5).toNatClampNeg)) 306 (cF (sA τ 305 (cF τ 300 3).toNatClampNeg (cA τ 313 ((3 : Int32) * x5).toNatClampNeg)) 300 3).toNatClampNeg (cA (sA τ 305 (cF τ 300 3).toNatClampNeg (cA τ 313 ((3 : Int32) * x5).toNatClampNeg)) 313 (((3 : Int32) * x5) + (1 : Int32)).toNatClampNeg)) 313 (((3 : Int32) * x5) + (2 : Int32)).toNatClampNeg)) 300 3 ((cF (sA (sA (sA τ 305 (cF τ 300 3).toNatClampNeg (cA τ 313 ((3 : Int32) * x5).toNatClampNeg)) 306 (cF (sA τ 305 (cF τ 300 3).toNatClampNeg (cA τ 313 ((3 : Int32) * x5).toNatClampNeg)) 300 3).toNatClampNeg (cA (sA τ 305 (cF τ 300 3).toNatClampNeg (cA τ 313 ((3 : Int32) * x5).toNatClampNeg)) 313 (((3 : Int32) * x5) + (1 : Int32)).toNatClampNeg)) 306 ((8 : Int32) + (cF (sA (sA τ 305 (cF τ 300 3).toNatClampNeg (cA τ 313 ((3 : Int32) * x5).toNatClampNeg)) 306 (cF (sA τ 305 (cF τ 300 3).toNatClampNeg (cA τ 313 ((3 : Int32) * x5).toNatClampNeg)) 300 3).toNatClampNeg (cA (sA τ 305 (cF τ 300 3).toNatClampNeg (cA τ 313 ((3 : Int32) * x5).toNatClampNeg)) 313 (((3 : Int32) * x5) + (1 : Int32)).toNatClampNeg)) 300 3)).toNatClampNeg (cA (sA (sA τ 305 (cF τ 300 3).toNatClampNeg (cA τ 313 ((3 : Int32) * x5).toNatClampNeg)) 306 (cF (sA τ 305 (cF τ 300 3).toNatClampNeg (cA τ 313 ((3 : Int32) * x5).toNatClampNeg)) 300 3).toNatClampNeg (cA (sA τ 305 (cF τ 300 3).toNatClampNeg (cA τ 313 ((3 : Int32) * x5).toNatClampNeg)) 313 (((3 : Int32) * x5) + (1 : Int32)).toNatClampNeg)) 313 (((3 : Int32) * x5) + (2 : Int32)).toNatClampNeg)) 300 3) + (1 : Int32))))))))))))
def f_X12_oysters_j203 (τ : St) (s1 : Int32) (s2 : Int32) : Option (Int32 × St) := (f_X12_flag s2).bind (fun q21 => some ((cF (sF τ 300 4 (s1 + q21)) 300 14), (sF τ 300 4 (s1 + q21))))
def f_X12_oysters_j183 (τ : St) (s1 : Int32) : Option (Int32 × St) := f_X12_oysters_j203 (sF τ 300 21 s1) (cF (sF τ 300 21 s1) 300 4) (if (cF (sF τ 300 21 s1) 300 14) ≤ 0 then (0 : Int32) else (1 : Int32))
def f_X12_oysters_j28 (τ : St) (x1 : Int32) (x2 : Int32) (s0 : Int32) : Option (Int32 × St) := (iter (fun z => f_X12_oysters_s29 z.2.2 x1 z.1 z.2.1) FU (x2, s0, τ)).bind (fun z7 => (f_X12_faultOf z7.2 x1 (39 : Int32) z7.1).bind (fun q10 => (if 0 ≤ q10 then (iter (fun z => f_X12_oysters_s81 z.2 z.1) FU ((0 : Int32), z7.2)).bind (fun z18 => f_X12_oysters_j183 z18 (if (cF z18 300 14) ≤ 0 then (cF z18 300 21) else (0 : Int32))) else some (q10, z7.2))))
def f_X12_oysters (σ : St) : Option (Int32 × St) := (f_X12_begins (sF σ 300 0 (0 : Int32)) (39 : Int32)).bind (fun q1 => f_X12_oysters_j28 (sF q1.2 300 14 (0 : Int32)) q1.1 (1 : Int32) (if q1.1 ≤ 0 then (0 : Int32) else (1 : Int32)))
theorem c_X12_oysters {l : Launch} {G : gT} {χ σ : St} (hf : FW G) {q : Int32 × St} (h : f_X12_oysters σ = some q) : Ct l G yX12_oysters prog_14_method_29_code 6 (some .int) 8 263 [.ref (ga G 300)] χ σ (some (.int q.1)) χ q.2 := by
  refine Ct.of (by decide) (Nat.le_of_ble_eq_true rfl) ?_
  intro p e s m args below meth c Q X hr hlk hQ
  have hx := X.1
  have hb := X.2.1
  have j56_29 : ∀ (τ : St) (x1 : Int32) (x2 : Int32) (s0 : Int32) (o : (Int32 × Int32 × St) ⊕ (Int32 × St)), f_X12_oysters_j56_29 τ x1 x2 s0 = some o → Sum.elim (fun z : Int32 × Int32 × St => Wat p l e (rmk 8 263) s m args below meth c Q G 6 29 [] [(2, .int z.1), (3, .int z.2.1), (0, .ref (ga G 300)), (1, .int x1)] χ z.2.2) (fun z : Int32 × St => Wat p l e (rmk 8 263) s m args below meth c Q G 6 60 [] [(0, .ref (ga G 300)), (1, .int x1), (2, .int z.1)] χ z.2) o → Wat p l e (rmk 8 263) s m args below meth c Q G 6 56 [.int s0] [(0, .ref (ga G 300)), (1, .int x1), (2, .int x2)] χ τ := by
    intro τ x1 x2 s0 o h hk H locs ls hw hl
    unfold f_X12_oysters_j56_29 at h
    refine lv_istore_n (lv' := [(3, .int s0), (0, .ref (ga G 300)), (1, .int x1), (2, .int x2)]) hx hb d_X12_oysters_56 rfl hl (Nat.le_of_ble_eq_true rfl) rfl (fun ls hl => ?_)
    refine lv_goto (tgt := 29) hx hb d_X12_oysters_57 (by decide) ?_
    obtain rfl := Option.some.inj h
    dsimp only [Sum.elim_inl] at hk
    exact hk _ _ _ hw (lv_sub hl [3, 0, 1, 2] rfl)
  have b29 : ∀ (τ : St) (y1 : Int32) (x2 : Int32) (x3 : Int32) (o : (Int32 × Int32 × St) ⊕ (Int32 × St)), f_X12_oysters_s29 τ y1 x2 x3 = some o → Sum.elim (fun z : Int32 × Int32 × St => Wat p l e (rmk 8 263) s m args below meth c Q G 6 29 [] [(2, .int z.1), (3, .int z.2.1), (0, .ref (ga G 300)), (1, .int y1)] χ z.2.2) (fun z : Int32 × St => Wat p l e (rmk 8 263) s m args below meth c Q G 6 60 [] [(0, .ref (ga G 300)), (1, .int y1), (2, .int z.1)] χ z.2) o → Wat p l e (rmk 8 263) s m args below meth c Q G 6 29 [] [(2, .int x2), (3, .int x3), (0, .ref (ga G 300)), (1, .int y1)] χ τ := by
    intro τ y1 x2 x3 o h hk H locs ls hw hl
    unfold f_X12_oysters_s29 at h
    refine lv_iload_n hx hb d_X12_oysters_29 rfl (lv_at hl 1 rfl) ?_
    refine lv_if_eq (tgt := 60) hx hb d_X12_oysters_30 (by decide) (fun hc => ?_) (fun hc => ?_)
    · have h := ite_t h hc
      obtain rfl := Option.some.inj h
      dsimp only [Sum.elim_inr] at hk
      exact hk _ _ _ hw (lv_sub hl [2, 3, 0] rfl)
    · have h := ite_f h hc
      refine lv_aload_n hx hb d_X12_oysters_33 rfl (lv_at hl 2 rfl) ?_
      obtain ⟨q3, e4, h⟩ := bd_some h
      refine r_callV (As := []) (rest := []) (st' := [.int q3.1]) X hw hl mwX12_readsOyster wd_1106 wp_17 wd_1104 (c_X12_readsOyster hf e4) (r_recv X hw ct8 (o_300 hf)) rfl ⟨Nat.le_of_ble_eq_true rfl, Nat.le_of_ble_eq_true rfl⟩ ⟨Nat.le_refl _, Nat.le_refl _⟩ rfl rfl (Nat.le_of_ble_eq_true rfl) d_X12_oysters_34 (fun H locs hw => ?_)
      refine lv_istore_n (lv' := [(2, .int q3.1), (3, .int x3), (0, .ref (ga G 300)), (1, .int y1)]) hx hb d_X12_oysters_37 rfl hl (Nat.le_of_ble_eq_true rfl) rfl (fun ls hl => ?_)
      refine lv_iload_n hx hb d_X12_oysters_38 rfl (lv_at hl 0 rfl) ?_
      refine lv_if_eq (tgt := 55) hx hb d_X12_oysters_39 (by decide) (fun hc => ?_) (fun hc => ?_)
      · have h := ite_t h hc
        refine lv_iconst (v := (0 : Int32)) hx hb d_X12_oysters_55 (by decide) ?_
        exact j56_29 q3.2 y1 q3.1 (0 : Int32) o h hk _ _ _ hw (lv_sub hl [2, 3, 0] rfl)
      · have h := ite_f h hc
        refine lv_aload_n hx hb d_X12_oysters_42 rfl (lv_at hl 2 rfl) ?_
        refine lv_bipush (v := (59 : Int32)) hx hb d_X12_oysters_43 (by decide) ?_
        obtain ⟨q5, e6, h⟩ := bd_some h
        refine r_callV (As := [.int (59 : Int32)]) (rest := []) (st' := [.int q5.1]) X hw hl mwX12_takes wd_1177 wp_22 wd_1175 (c_X12_takes hf e6) (r_recv X hw ct8 (o_300 hf)) rfl ⟨Nat.le_of_ble_eq_true rfl, Nat.le_of_ble_eq_true rfl⟩ ⟨Nat.le_refl _, Nat.le_refl _⟩ rfl rfl (Nat.le_of_ble_eq_true rfl) d_X12_oysters_45 (fun H locs hw => ?_)
        refine lv_if_eq (tgt := 55) hx hb d_X12_oysters_48 (by decide) (fun hc => ?_) (fun hc => ?_)
        · simp only [if_pos hc] at h
          refine lv_iconst (v := (0 : Int32)) hx hb d_X12_oysters_55 (by decide) ?_
          exact j56_29 q5.2 y1 q3.1 (0 : Int32) o h hk _ _ _ hw (lv_sub hl [2, 3, 0] rfl)
        · simp only [if_neg hc] at h
          refine lv_iconst (v := (1 : Int32)) hx hb d_X12_oysters_51 (by decide) ?_
          refine lv_goto (tgt := 56) hx hb d_X12_oysters_52 (by decide) ?_
          exact j56_29 q5.2 y1 q3.1 (1 : Int32) o h hk _ _ _ hw (lv_sub hl [2, 3, 0] rfl)
  have b81 : ∀ (τ : St) (x5 : Int32) (o : (Int32 × St) ⊕ (St)), f_X12_oysters_s81 τ x5 = some o → Sum.elim (fun z : Int32 × St => Wat p l e (rmk 8 263) s m args below meth c Q G 6 81 [] [(5, .int z.1), (0, .ref (ga G 300))] χ z.2) (fun z : St => Wat p l e (rmk 8 263) s m args below meth c Q G 6 167 [] [(0, .ref (ga G 300))] χ z) o → Wat p l e (rmk 8 263) s m args below meth c Q G 6 81 [] [(5, .int x5), (0, .ref (ga G 300))] χ τ := by
    intro τ x5 o h hk H locs ls hw hl
    unfold f_X12_oysters_s81 at h
    refine lv_iload hx hb d_X12_oysters_81 (lv_at hl 0 rfl) ?_
    refine lv_aload_n hx hb d_X12_oysters_83 rfl (lv_at hl 1 rfl) ?_
    refine m_geti (j := 14) X hw ct8 (o_300 hf) (Nat.le_of_ble_eq_true rfl) rfl (Nat.le_of_ble_eq_true rfl) wd_970 d_X12_oysters_84 ?_
    refine lv_icmp_ge (tgt := 167) hx hb d_X12_oysters_87 (by decide) (fun hc => ?_) (fun hc => ?_)
    · have h := ite_t h hc
      obtain rfl := Option.some.inj h
      dsimp only [Sum.elim_inr] at hk
      exact hk _ _ _ hw (lv_sub hl [1] rfl)
    · have h := ite_f h hc
      refine lv_aload_n hx hb d_X12_oysters_90 rfl (lv_at hl 1 rfl) ?_
      refine r_getr (j := 5) X hw ct8 (o_300 hf) rfl (Nat.le_of_ble_eq_true rfl) (q := 305) rfl wd_961 d_X12_oysters_91 ?_
      refine lv_aload_n hx hb d_X12_oysters_94 rfl (lv_at hl 1 rfl) ?_
      refine m_geti (j := 3) X hw ct8 (o_300 hf) (Nat.le_of_ble_eq_true rfl) rfl (Nat.le_of_ble_eq_true rfl) wd_959 d_X12_oysters_95 ?_
      refine lv_aload_n hx hb d_X12_oysters_98 rfl (lv_at hl 1 rfl) ?_
      refine r_getr (j := 13) X hw ct8 (o_300 hf) rfl (Nat.le_of_ble_eq_true rfl) (q := 313) rfl wd_969 d_X12_oysters_99 ?_
      refine lv_iconst (v := (3 : Int32)) hx hb d_X12_oysters_102 (by decide) ?_
      refine lv_iload hx hb d_X12_oysters_103 (lv_at hl 0 rfl) ?_
      refine lv_imul hx hb d_X12_oysters_105 ?_
      obtain ⟨hi12, h⟩ := gd_some h
      refine m_iald X hw (o_313 hf) (Nat.le_of_ble_eq_true rfl) hi12 d_X12_oysters_106 ?_
      obtain ⟨hi13, h⟩ := gd_some h
      refine m_iast X hw (o_305 hf) (Nat.le_of_ble_eq_true rfl) hi13 d_X12_oysters_107 (fun H locs hw => ?_)
      refine lv_aload_n hx hb d_X12_oysters_108 rfl (lv_at hl 1 rfl) ?_
      refine r_getr (j := 6) X hw ct8 (o_300 hf) rfl (Nat.le_of_ble_eq_true rfl) (q := 306) rfl wd_962 d_X12_oysters_109 ?_
      refine lv_aload_n hx hb d_X12_oysters_112 rfl (lv_at hl 1 rfl) ?_
      refine m_geti (j := 3) X hw ct8 (o_300 hf) (Nat.le_of_ble_eq_true rfl) rfl (Nat.le_of_ble_eq_true rfl) wd_959 d_X12_oysters_113 ?_
      refine lv_aload_n hx hb d_X12_oysters_116 rfl (lv_at hl 1 rfl) ?_
      refine r_getr (j := 13) X hw ct8 (o_300 hf) rfl (Nat.le_of_ble_eq_true rfl) (q := 313) rfl wd_969 d_X12_oysters_117 ?_
      refine lv_iconst (v := (3 : Int32)) hx hb d_X12_oysters_120 (by decide) ?_
      refine lv_iload hx hb d_X12_oysters_121 (lv_at hl 0 rfl) ?_
      refine lv_imul hx hb d_X12_oysters_123 ?_
      refine lv_iconst (v := (1 : Int32)) hx hb d_X12_oysters_124 (by decide) ?_
      refine lv_iadd hx hb d_X12_oysters_125 ?_
      obtain ⟨hi14, h⟩ := gd_some h
      refine m_iald X hw (o_313 hf) (Nat.le_of_ble_eq_true rfl) hi14 d_X12_oysters_126 ?_
      obtain ⟨hi15, h⟩ := gd_some h
      refine m_iast X hw (o_306 hf) (Nat.le_of_ble_eq_true rfl) hi15 d_X12_oysters_127 (fun H locs hw => ?_)
      refine lv_aload_n hx hb d_X12_oysters_128 rfl (lv_at hl 1 rfl) ?_
      refine r_getr (j := 6) X hw ct8 (o_300 hf) rfl (Nat.le_of_ble_eq_true rfl) (q := 306) rfl wd_962 d_X12_oysters_129 ?_
      refine lv_bipush (v := (8 : Int32)) hx hb d_X12_oysters_132 (by decide) ?_
      refine lv_aload_n hx hb d_X12_oysters_134 rfl (lv_at hl 1 rfl) ?_
      refine m_geti (j := 3) X hw ct8 (o_300 hf) (Nat.le_of_ble_eq_true rfl) rfl (Nat.le_of_ble_eq_true rfl) wd_959 d_X12_oysters_135 ?_
      refine lv_iadd hx hb d_X12_oysters_138 ?_
      refine lv_aload_n hx hb d_X12_oysters_139 rfl (lv_at hl 1 rfl) ?_
      refine r_getr (j := 13) X hw ct8 (o_300 hf) rfl (Nat.le_of_ble_eq_true rfl) (q := 313) rfl wd_969 d_X12_oysters_140 ?_
      refine lv_iconst (v := (3 : Int32)) hx hb d_X12_oysters_143 (by decide) ?_
      refine lv_iload hx hb d_X12_oysters_144 (lv_at hl 0 rfl) ?_
      refine lv_imul hx hb d_X12_oysters_146 ?_
      refine lv_iconst (v := (2 : Int32)) hx hb d_X12_oysters_147 (by decide) ?_
      refine lv_iadd hx hb d_X12_oysters_148 ?_
      obtain ⟨hi16, h⟩ := gd_some h
      refine m_iald X hw (o_313 hf) (Nat.le_of_ble_eq_true rfl) hi16 d_X12_oysters_149 ?_
      obtain ⟨hi17, h⟩ := gd_some h
      refine m_iast X hw (o_306 hf) (Nat.le_of_ble_eq_true rfl) hi17 d_X12_oysters_150 (fun H locs hw => ?_)
      refine lv_aload_n hx hb d_X12_oysters_151 rfl (lv_at hl 1 rfl) ?_
      refine lv_dup hx hb d_X12_oysters_152 rfl ?_
      refine m_geti (j := 3) X hw ct8 (o_300 hf) (Nat.le_of_ble_eq_true rfl) rfl (Nat.le_of_ble_eq_true rfl) wd_959 d_X12_oysters_153 ?_
      refine lv_iconst (v := (1 : Int32)) hx hb d_X12_oysters_156 (by decide) ?_
      refine lv_iadd hx hb d_X12_oysters_157 ?_
      refine m_puti (j := 3) X hw ct8 (o_300 hf) (Nat.le_of_ble_eq_true rfl) rfl (Nat.le_of_ble_eq_true rfl) rfl rfl rfl wd_959 d_X12_oysters_158 (fun H locs hw => ?_)
      refine lv_iinc (v := (x5 + (1 : Int32))) (k := 0) (lv' := [(5, .int (x5 + (1 : Int32))), (0, .ref (ga G 300))]) hx hb d_X12_oysters_161 hl rfl (by rfl) (Nat.le_of_ble_eq_true rfl) rfl (fun ls hl => ?_)
      refine lv_goto (tgt := 81) hx hb d_X12_oysters_164 (by decide) ?_
      obtain rfl := Option.some.inj h
      dsimp only [Sum.elim_inl] at hk
      exact hk _ _ _ hw (lv_sub hl [0, 1] rfl)
  have j203 : ∀ (τ : St) (s1 : Int32) (s2 : Int32), f_X12_oysters_j203 τ s1 s2 = some q → Wat p l e (rmk 8 263) s m args below meth c Q G 6 203 [.int s2, .int s1, .ref (ga G 300)] [(0, .ref (ga G 300))] χ τ := by
    intro τ s1 s2 h H locs ls hw hl
    unfold f_X12_oysters_j203 at h
    obtain ⟨q21, e22, h⟩ := bd_some h
    refine r_callS (As := [.int s2]) (rest := [.int s1, .ref (ga G 300)]) (st' := [.int q21, .int s1, .ref (ga G 300)]) X hw hl mwX12_flag wd_1180 wd_1179 (c_X12_flag hf e22) rfl ⟨Nat.le_of_ble_eq_true rfl, Nat.le_of_ble_eq_true rfl⟩ ⟨Nat.le_refl _, Nat.le_refl _⟩ rfl rfl (Nat.le_of_ble_eq_true rfl) d_X12_oysters_203 (fun H locs hw => ?_)
    refine lv_iadd hx hb d_X12_oysters_206 ?_
    refine m_puti (j := 4) X hw ct8 (o_300 hf) (Nat.le_of_ble_eq_true rfl) rfl (Nat.le_of_ble_eq_true rfl) rfl rfl rfl wd_960 d_X12_oysters_207 (fun H locs hw => ?_)
    refine lv_aload_n hx hb d_X12_oysters_210 rfl (lv_at hl 0 rfl) ?_
    refine m_geti (j := 14) X hw ct8 (o_300 hf) (Nat.le_of_ble_eq_true rfl) rfl (Nat.le_of_ble_eq_true rfl) wd_970 d_X12_oysters_211 ?_
    obtain rfl := Option.some.inj h
    subst hQ
    exact r_iret X hr hlk hw d_X12_oysters_214
  have j183 : ∀ (τ : St) (s1 : Int32), f_X12_oysters_j183 τ s1 = some q → Wat p l e (rmk 8 263) s m args below meth c Q G 6 183 [.int s1, .ref (ga G 300)] [(0, .ref (ga G 300))] χ τ := by
    intro τ s1 h H locs ls hw hl
    unfold f_X12_oysters_j183 at h
    refine m_puti (j := 21) X hw ct8 (o_300 hf) (Nat.le_of_ble_eq_true rfl) rfl (Nat.le_of_ble_eq_true rfl) rfl rfl rfl wd_977 d_X12_oysters_183 (fun H locs hw => ?_)
    refine lv_aload_n hx hb d_X12_oysters_186 rfl (lv_at hl 0 rfl) ?_
    refine lv_dup hx hb d_X12_oysters_187 rfl ?_
    refine m_geti (j := 4) X hw ct8 (o_300 hf) (Nat.le_of_ble_eq_true rfl) rfl (Nat.le_of_ble_eq_true rfl) wd_960 d_X12_oysters_188 ?_
    refine lv_aload_n hx hb d_X12_oysters_191 rfl (lv_at hl 0 rfl) ?_
    refine m_geti (j := 14) X hw ct8 (o_300 hf) (Nat.le_of_ble_eq_true rfl) rfl (Nat.le_of_ble_eq_true rfl) wd_970 d_X12_oysters_192 ?_
    refine lv_if_le (tgt := 202) hx hb d_X12_oysters_195 (by decide) (fun hc => ?_) (fun hc => ?_)
    · simp only [if_pos hc] at h
      refine lv_iconst (v := (0 : Int32)) hx hb d_X12_oysters_202 (by decide) ?_
      exact j203 (sF τ 300 21 s1) (cF (sF τ 300 21 s1) 300 4) (0 : Int32) h _ _ _ hw (lv_sub hl [0] rfl)
    · simp only [if_neg hc] at h
      refine lv_iconst (v := (1 : Int32)) hx hb d_X12_oysters_198 (by decide) ?_
      refine lv_goto (tgt := 203) hx hb d_X12_oysters_199 (by decide) ?_
      exact j203 (sF τ 300 21 s1) (cF (sF τ 300 21 s1) 300 4) (1 : Int32) h _ _ _ hw (lv_sub hl [0] rfl)
  have j28 : ∀ (τ : St) (x1 : Int32) (x2 : Int32) (s0 : Int32), f_X12_oysters_j28 τ x1 x2 s0 = some q → Wat p l e (rmk 8 263) s m args below meth c Q G 6 28 [.int s0] [(0, .ref (ga G 300)), (1, .int x1), (2, .int x2)] χ τ := by
    intro τ x1 x2 s0 h H locs ls hw hl
    unfold f_X12_oysters_j28 at h
    refine lv_istore_n (lv' := [(3, .int s0), (0, .ref (ga G 300)), (1, .int x1), (2, .int x2)]) hx hb d_X12_oysters_28 rfl hl (Nat.le_of_ble_eq_true rfl) rfl (fun ls hl => ?_)
    obtain ⟨z7, e8, h⟩ := bd_some h
    refine iter_w (Wh := fun z : Int32 × Int32 × St => Wat p l e (rmk 8 263) s m args below meth c Q G 6 29 [] [(2, .int z.1), (3, .int z.2.1), (0, .ref (ga G 300)), (1, .int x1)] χ z.2.2) (K := fun z : Int32 × St => Wat p l e (rmk 8 263) s m args below meth c Q G 6 60 [] [(0, .ref (ga G 300)), (1, .int x1), (2, .int z.1)] χ z.2) (fun z o h1 h2 => b29 z.2.2 x1 z.1 z.2.1 o h1 h2) FU _ _ e8 ?_ _ _ _ hw (lv_sub hl [3, 0, 1, 2] rfl)
    intro H locs ls hw hl
    refine lv_aload_n hx hb d_X12_oysters_60 rfl (lv_at hl 0 rfl) ?_
    refine lv_iload_n hx hb d_X12_oysters_61 rfl (lv_at hl 1 rfl) ?_
    refine lv_bipush (v := (39 : Int32)) hx hb d_X12_oysters_62 (by decide) ?_
    refine lv_iload_n hx hb d_X12_oysters_64 rfl (lv_at hl 2 rfl) ?_
    obtain ⟨q10, e11, h⟩ := bd_some h
    refine r_callV (As := [.int x1, .int (39 : Int32), .int z7.1]) (rest := []) (st' := [.int q10]) X hw hl mwX12_faultOf wd_1184 wp_23 wd_1182 (c_X12_faultOf hf e11) (r_recv X hw ct8 (o_300 hf)) rfl ⟨Nat.le_of_ble_eq_true rfl, Nat.le_of_ble_eq_true rfl⟩ ⟨Nat.le_refl _, Nat.le_refl _⟩ rfl rfl (Nat.le_of_ble_eq_true rfl) d_X12_oysters_65 (fun H locs hw => ?_)
    refine lv_istore (lv' := [(4, .int q10), (0, .ref (ga G 300)), (1, .int x1), (2, .int z7.1)]) hx hb d_X12_oysters_68 hl (Nat.le_of_ble_eq_true rfl) rfl (fun ls hl => ?_)
    refine lv_iload hx hb d_X12_oysters_70 (lv_at hl 0 rfl) ?_
    refine lv_if_ge (tgt := 78) hx hb d_X12_oysters_72 (by decide) (fun hc => ?_) (fun hc => ?_)
    · have h := ite_t h hc
      refine lv_iconst (v := (0 : Int32)) hx hb d_X12_oysters_78 (by decide) ?_
      refine lv_istore (lv' := [(5, .int (0 : Int32)), (4, .int q10), (0, .ref (ga G 300)), (1, .int x1), (2, .int z7.1)]) hx hb d_X12_oysters_79 hl (Nat.le_of_ble_eq_true rfl) rfl (fun ls hl => ?_)
      obtain ⟨z18, e19, h⟩ := bd_some h
      refine iter_w (Wh := fun z : Int32 × St => Wat p l e (rmk 8 263) s m args below meth c Q G 6 81 [] [(5, .int z.1), (0, .ref (ga G 300))] χ z.2) (K := fun z : St => Wat p l e (rmk 8 263) s m args below meth c Q G 6 167 [] [(0, .ref (ga G 300))] χ z) (fun z o h1 h2 => b81 z.2 z.1 o h1 h2) FU _ _ e19 ?_ _ _ _ hw (lv_sub hl [0, 2] rfl)
      intro H locs ls hw hl
      refine lv_aload_n hx hb d_X12_oysters_167 rfl (lv_at hl 0 rfl) ?_
      refine lv_aload_n hx hb d_X12_oysters_168 rfl (lv_at hl 0 rfl) ?_
      refine m_geti (j := 14) X hw ct8 (o_300 hf) (Nat.le_of_ble_eq_true rfl) rfl (Nat.le_of_ble_eq_true rfl) wd_970 d_X12_oysters_169 ?_
      refine lv_if_le (tgt := 179) hx hb d_X12_oysters_172 (by decide) (fun hc => ?_) (fun hc => ?_)
      · simp only [if_pos hc] at h
        refine lv_aload_n hx hb d_X12_oysters_179 rfl (lv_at hl 0 rfl) ?_
        refine m_geti (j := 21) X hw ct8 (o_300 hf) (Nat.le_of_ble_eq_true rfl) rfl (Nat.le_of_ble_eq_true rfl) wd_977 d_X12_oysters_180 ?_
        exact j183 z18 (cF z18 300 21) h _ _ _ hw (lv_sub hl [0] rfl)
      · simp only [if_neg hc] at h
        refine lv_iconst (v := (0 : Int32)) hx hb d_X12_oysters_175 (by decide) ?_
        refine lv_goto (tgt := 183) hx hb d_X12_oysters_176 (by decide) ?_
        exact j183 z18 (0 : Int32) h _ _ _ hw (lv_sub hl [0] rfl)
    · have h := ite_f h hc
      refine lv_iload hx hb d_X12_oysters_75 (lv_at hl 0 rfl) ?_
      obtain rfl := Option.some.inj h
      subst hQ
      exact r_iret X hr hlk hw d_X12_oysters_77
  intro H locs ls hw hl
  have hl : lv_has ls 6 [(0, .ref (ga G 300))] := hl
  unfold f_X12_oysters at h
  refine lv_aload_n hx hb d_X12_oysters_0 rfl (lv_at hl 0 rfl) ?_
  refine lv_iconst (v := (0 : Int32)) hx hb d_X12_oysters_1 (by decide) ?_
  refine m_puti (j := 0) X hw ct8 (o_300 hf) (Nat.le_of_ble_eq_true rfl) rfl (Nat.le_of_ble_eq_true rfl) rfl rfl rfl wd_956 d_X12_oysters_2 (fun H locs hw => ?_)
  refine lv_aload_n hx hb d_X12_oysters_5 rfl (lv_at hl 0 rfl) ?_
  refine lv_bipush (v := (39 : Int32)) hx hb d_X12_oysters_6 (by decide) ?_
  obtain ⟨q1, e2, h⟩ := bd_some h
  refine r_callV (As := [.int (39 : Int32)]) (rest := []) (st' := [.int q1.1]) X hw hl mwX12_begins wd_1101 wp_16 wd_1099 (c_X12_begins hf e2) (r_recv X hw ct8 (o_300 hf)) rfl ⟨Nat.le_of_ble_eq_true rfl, Nat.le_of_ble_eq_true rfl⟩ ⟨Nat.le_refl _, Nat.le_refl _⟩ rfl rfl (Nat.le_of_ble_eq_true rfl) d_X12_oysters_8 (fun H locs hw => ?_)
  refine lv_istore_n (lv' := [(1, .int q1.1), (0, .ref (ga G 300))]) hx hb d_X12_oysters_11 rfl hl (Nat.le_of_ble_eq_true rfl) rfl (fun ls hl => ?_)
  refine lv_aload_n hx hb d_X12_oysters_12 rfl (lv_at hl 1 rfl) ?_
  refine lv_iconst (v := (0 : Int32)) hx hb d_X12_oysters_13 (by decide) ?_
  refine m_puti (j := 14) X hw ct8 (o_300 hf) (Nat.le_of_ble_eq_true rfl) rfl (Nat.le_of_ble_eq_true rfl) rfl rfl rfl wd_970 d_X12_oysters_14 (fun H locs hw => ?_)
  refine lv_iconst (v := (1 : Int32)) hx hb d_X12_oysters_17 (by decide) ?_
  refine lv_istore_n (lv' := [(2, .int (1 : Int32)), (1, .int q1.1), (0, .ref (ga G 300))]) hx hb d_X12_oysters_18 rfl hl (Nat.le_of_ble_eq_true rfl) rfl (fun ls hl => ?_)
  refine lv_iload_n hx hb d_X12_oysters_19 rfl (lv_at hl 1 rfl) ?_
  refine lv_if_le (tgt := 27) hx hb d_X12_oysters_20 (by decide) (fun hc => ?_) (fun hc => ?_)
  · simp only [if_pos hc] at h
    refine lv_iconst (v := (0 : Int32)) hx hb d_X12_oysters_27 (by decide) ?_
    exact j28 (sF q1.2 300 14 (0 : Int32)) q1.1 (1 : Int32) (0 : Int32) h _ _ _ hw (lv_sub hl [2, 1, 0] rfl)
  · simp only [if_neg hc] at h
    refine lv_iconst (v := (1 : Int32)) hx hb d_X12_oysters_23 (by decide) ?_
    refine lv_goto (tgt := 28) hx hb d_X12_oysters_24 (by decide) ?_
    exact j28 (sF q1.2 300 14 (0 : Int32)) q1.1 (1 : Int32) (1 : Int32) h _ _ _ hw (lv_sub hl [2, 1, 0] rfl)
abbrev yX12_readsThing : MethodName := ⟨"OysterBedsModel", "readsThing", "()Z"⟩
theorem mwX12_readsThing : MW yX12_readsThing prog_14_method_31_code 2 (some .boolean) 0 := ⟨wd_1201, wd_10, by decide +kernel⟩
abbrev yX12_readsRank : MethodName := ⟨"OysterBedsModel", "readsRank", "(I)Z"⟩
theorem mwX12_readsRank : MW yX12_readsRank prog_14_method_32_code 4 (some .boolean) 1 := ⟨wd_1197, wd_10, by decide +kernel⟩
theorem d_X12_readsThing_0 : decode prog_14_method_31_code 0 = .ok (.aload_n 0, 1) := by decide +kernel
theorem d_X12_readsThing_1 : decode prog_14_method_31_code 1 = .ok (.bipush 45, 2) := by decide +kernel
theorem d_X12_readsThing_3 : decode prog_14_method_31_code 3 = .ok (.invokevirtual 179, 3) := by decide +kernel
theorem d_X12_readsThing_6 : decode prog_14_method_31_code 6 = .ok (.ifCond .eq 17, 3) := by decide +kernel
theorem d_X12_readsThing_9 : decode prog_14_method_31_code 9 = .ok (.aload_n 0, 1) := by decide +kernel
theorem d_X12_readsThing_10 : decode prog_14_method_31_code 10 = .ok (.invokevirtual 196, 3) := by decide +kernel
theorem d_X12_readsThing_13 : decode prog_14_method_31_code 13 = .ok (.istore_n 1, 1) := by decide +kernel
theorem d_X12_readsThing_14 : decode prog_14_method_31_code 14 = .ok (.aload_n 0, 1) := by decide +kernel
theorem d_X12_readsThing_15 : decode prog_14_method_31_code 15 = .ok (.sipush 3000, 3) := by decide +kernel
theorem d_X12_readsThing_18 : decode prog_14_method_31_code 18 = .ok (.invokevirtual 199, 3) := by decide +kernel
theorem d_X12_readsThing_21 : decode prog_14_method_31_code 21 = .ok (.iload_n 1, 1) := by decide +kernel
theorem d_X12_readsThing_22 : decode prog_14_method_31_code 22 = .ok (.ireturn, 1) := by decide +kernel
theorem d_X12_readsThing_23 : decode prog_14_method_31_code 23 = .ok (.aload_n 0, 1) := by decide +kernel
theorem d_X12_readsThing_24 : decode prog_14_method_31_code 24 = .ok (.invokevirtual 153, 3) := by decide +kernel
theorem d_X12_readsThing_27 : decode prog_14_method_31_code 27 = .ok (.ifCond .eq 14, 3) := by decide +kernel
theorem d_X12_readsThing_30 : decode prog_14_method_31_code 30 = .ok (.aload_n 0, 1) := by decide +kernel
theorem d_X12_readsThing_31 : decode prog_14_method_31_code 31 = .ok (.aload_n 0, 1) := by decide +kernel
theorem d_X12_readsThing_32 : decode prog_14_method_31_code 32 = .ok (.iconst 3, 1) := by decide +kernel
theorem d_X12_readsThing_33 : decode prog_14_method_31_code 33 = .ok (.invokevirtual 157, 3) := by decide +kernel
theorem d_X12_readsThing_36 : decode prog_14_method_31_code 36 = .ok (.invokevirtual 199, 3) := by decide +kernel
theorem d_X12_readsThing_39 : decode prog_14_method_31_code 39 = .ok (.iconst 1, 1) := by decide +kernel
theorem d_X12_readsThing_40 : decode prog_14_method_31_code 40 = .ok (.ireturn, 1) := by decide +kernel
theorem d_X12_readsThing_41 : decode prog_14_method_31_code 41 = .ok (.aload_n 0, 1) := by decide +kernel
theorem d_X12_readsThing_42 : decode prog_14_method_31_code 42 = .ok (.ldc 203, 2) := by decide +kernel
theorem d_X12_readsThing_44 : decode prog_14_method_31_code 44 = .ok (.invokevirtual 166, 3) := by decide +kernel
theorem d_X12_readsThing_47 : decode prog_14_method_31_code 47 = .ok (.istore_n 1, 1) := by decide +kernel
theorem d_X12_readsThing_48 : decode prog_14_method_31_code 48 = .ok (.iload_n 1, 1) := by decide +kernel
theorem d_X12_readsThing_49 : decode prog_14_method_31_code 49 = .ok (.ifCond .lt 14, 3) := by decide +kernel
theorem d_X12_readsThing_52 : decode prog_14_method_31_code 52 = .ok (.aload_n 0, 1) := by decide +kernel
theorem d_X12_readsThing_53 : decode prog_14_method_31_code 53 = .ok (.sipush 1000, 3) := by decide +kernel
theorem d_X12_readsThing_56 : decode prog_14_method_31_code 56 = .ok (.iload_n 1, 1) := by decide +kernel
theorem d_X12_readsThing_57 : decode prog_14_method_31_code 57 = .ok (.iadd, 1) := by decide +kernel
theorem d_X12_readsThing_58 : decode prog_14_method_31_code 58 = .ok (.invokevirtual 199, 3) := by decide +kernel
theorem d_X12_readsThing_61 : decode prog_14_method_31_code 61 = .ok (.iconst 1, 1) := by decide +kernel
theorem d_X12_readsThing_62 : decode prog_14_method_31_code 62 = .ok (.ireturn, 1) := by decide +kernel
theorem d_X12_readsThing_63 : decode prog_14_method_31_code 63 = .ok (.aload_n 0, 1) := by decide +kernel
theorem d_X12_readsThing_64 : decode prog_14_method_31_code 64 = .ok (.getfield 123, 3) := by decide +kernel
theorem d_X12_readsThing_67 : decode prog_14_method_31_code 67 = .ok (.iconst 4, 1) := by decide +kernel
theorem d_X12_readsThing_68 : decode prog_14_method_31_code 68 = .ok (.if_icmp .eq 12, 3) := by decide +kernel
theorem d_X12_readsThing_71 : decode prog_14_method_31_code 71 = .ok (.aload_n 0, 1) := by decide +kernel
theorem d_X12_readsThing_72 : decode prog_14_method_31_code 72 = .ok (.bipush 40, 2) := by decide +kernel
theorem d_X12_readsThing_74 : decode prog_14_method_31_code 74 = .ok (.invokevirtual 179, 3) := by decide +kernel
theorem d_X12_readsThing_77 : decode prog_14_method_31_code 77 = .ok (.ifCond .ne 5, 3) := by decide +kernel
theorem d_X12_readsThing_80 : decode prog_14_method_31_code 80 = .ok (.iconst 0, 1) := by decide +kernel
theorem d_X12_readsThing_81 : decode prog_14_method_31_code 81 = .ok (.ireturn, 1) := by decide +kernel
theorem d_X12_readsThing_82 : decode prog_14_method_31_code 82 = .ok (.aload_n 0, 1) := by decide +kernel
theorem d_X12_readsThing_83 : decode prog_14_method_31_code 83 = .ok (.dup, 1) := by decide +kernel
theorem d_X12_readsThing_84 : decode prog_14_method_31_code 84 = .ok (.getfield 123, 3) := by decide +kernel
theorem d_X12_readsThing_87 : decode prog_14_method_31_code 87 = .ok (.iconst 1, 1) := by decide +kernel
theorem d_X12_readsThing_88 : decode prog_14_method_31_code 88 = .ok (.iadd, 1) := by decide +kernel
theorem d_X12_readsThing_89 : decode prog_14_method_31_code 89 = .ok (.putfield 123, 3) := by decide +kernel
theorem d_X12_readsThing_92 : decode prog_14_method_31_code 92 = .ok (.aload_n 0, 1) := by decide +kernel
theorem d_X12_readsThing_93 : decode prog_14_method_31_code 93 = .ok (.iconst 0, 1) := by decide +kernel
theorem d_X12_readsThing_94 : decode prog_14_method_31_code 94 = .ok (.invokevirtual 205, 3) := by decide +kernel
theorem d_X12_readsThing_97 : decode prog_14_method_31_code 97 = .ok (.ifCond .eq 12, 3) := by decide +kernel
theorem d_X12_readsThing_100 : decode prog_14_method_31_code 100 = .ok (.aload_n 0, 1) := by decide +kernel
theorem d_X12_readsThing_101 : decode prog_14_method_31_code 101 = .ok (.bipush 41, 2) := by decide +kernel
theorem d_X12_readsThing_103 : decode prog_14_method_31_code 103 = .ok (.invokevirtual 179, 3) := by decide +kernel
theorem d_X12_readsThing_106 : decode prog_14_method_31_code 106 = .ok (.ifCond .ne 5, 3) := by decide +kernel
theorem d_X12_readsThing_109 : decode prog_14_method_31_code 109 = .ok (.iconst 0, 1) := by decide +kernel
theorem d_X12_readsThing_110 : decode prog_14_method_31_code 110 = .ok (.ireturn, 1) := by decide +kernel
theorem d_X12_readsThing_111 : decode prog_14_method_31_code 111 = .ok (.aload_n 0, 1) := by decide +kernel
theorem d_X12_readsThing_112 : decode prog_14_method_31_code 112 = .ok (.dup, 1) := by decide +kernel
theorem d_X12_readsThing_113 : decode prog_14_method_31_code 113 = .ok (.getfield 123, 3) := by decide +kernel
theorem d_X12_readsThing_116 : decode prog_14_method_31_code 116 = .ok (.iconst 1, 1) := by decide +kernel
theorem d_X12_readsThing_117 : decode prog_14_method_31_code 117 = .ok (.isub, 1) := by decide +kernel
theorem d_X12_readsThing_118 : decode prog_14_method_31_code 118 = .ok (.putfield 123, 3) := by decide +kernel
theorem d_X12_readsThing_121 : decode prog_14_method_31_code 121 = .ok (.iconst 1, 1) := by decide +kernel
theorem d_X12_readsThing_122 : decode prog_14_method_31_code 122 = .ok (.ireturn, 1) := by decide +kernel
def f_X12_readsThing_b (rec_X12_readsThing : St → Option (Int32 × St)) (rec_X12_readsRank : St → Int32 → Option (Int32 × St)) (σ : St) : Option (Int32 × St) := (f_X12_takes σ (45 : Int32)).bind (fun q1 => (if q1.1 = 0 then (f_X12_isDigit q1.2).bind (fun q3 => (if q3 = 0 then (f_X12_takesOf q1.2 4).bind (fun q5 => (if q5.1 < 0 then (if (cF q5.2 300 12) = (4 : Int32) then some ((0 : Int32), q5.2) else (f_X12_takes q5.2 (40 : Int32)).bind (fun q7 => (if q7.1 = 0 then some ((0 : Int32), q7.2) else (rec_X12_readsRank (sF q7.2 300 12 ((cF q7.2 300 12) + (1 : Int32))) (0 : Int32)).bind (fun q9 => (if q9.1 = 0 then some ((0 : Int32), q9.2) else (f_X12_takes q9.2 (41 : Int32)).bind (fun q11 => (if q11.1 = 0 then some ((0 : Int32), q11.2) else some ((1 : Int32), (sF q11.2 300 12 ((cF q11.2 300 12) - (1 : Int32))))))))))) else (f_X12_codes q5.2 ((1000 : Int32) + q5.1)).bind (fun q13 => some ((1 : Int32), q13)))) else (f_X12_number q1.2 (3 : Int32)).bind (fun q15 => (f_X12_codes q15.2 q15.1).bind (fun q17 => some ((1 : Int32), q17))))) else (rec_X12_readsThing q1.2).bind (fun q19 => (f_X12_codes q19.2 (3000 : Int32)).bind (fun q21 => gd (nb q19.1) (some (q19.1, q21))))))
theorem c_X12_readsThing_b {l : Launch} {G : gT} {χ σ : St} {d : Nat} (rec_X12_readsThing : St → Option (Int32 × St)) (rec_X12_readsRank : St → Int32 → Option (Int32 × St)) (hf : FW G) (hrec_X12_readsThing : ∀ {χ σ : St} {q : Int32 × St}, rec_X12_readsThing σ = some q → Ct l G yX12_readsThing prog_14_method_31_code 2 (some .boolean) (d + 12) (d * 24 + 400) [.ref (ga G 300)] χ σ (some (.int q.1)) χ q.2) (hrec_X12_readsRank : ∀ {χ σ : St} {a1 : Int32} {q : Int32 × St}, rec_X12_readsRank σ a1 = some q → Ct l G yX12_readsRank prog_14_method_32_code 4 (some .boolean) (d + 12) (d * 24 + 400) [.ref (ga G 300), .int a1] χ σ (some (.int q.1)) χ q.2) {q : Int32 × St} (h : f_X12_readsThing_b rec_X12_readsThing rec_X12_readsRank σ = some q) : Ct l G yX12_readsThing prog_14_method_31_code 2 (some .boolean) (d + 1 + 12) ((d + 1) * 24 + 400) [.ref (ga G 300)] χ σ (some (.int q.1)) χ q.2 := by
  refine Ct.of (by decide) (Nat.le_of_ble_eq_true rfl) ?_
  intro p e s m args below meth c Q X hr hlk hQ
  have hx := X.1
  have hb := X.2.1
  intro H locs ls hw hl
  have hl : lv_has ls 2 [(0, .ref (ga G 300))] := hl
  unfold f_X12_readsThing_b at h
  refine lv_aload_n hx hb d_X12_readsThing_0 rfl (lv_at hl 0 rfl) ?_
  refine lv_bipush (v := (45 : Int32)) hx hb d_X12_readsThing_1 (by decide) ?_
  obtain ⟨q1, e2, h⟩ := bd_some h
  refine r_callV (As := [.int (45 : Int32)]) (rest := []) (st' := [.int q1.1]) X hw hl mwX12_takes wd_1177 wp_22 wd_1175 (c_X12_takes hf e2) (r_recv X hw ct8 (o_300 hf)) rfl ⟨by show 1 + 1 ≤ d + 1 + 12; omega, by show 8 + (3 + 11) + 20 ≤ (d + 1) * 24 + 400; omega⟩ ⟨Nat.le_refl _, Nat.le_refl _⟩ rfl rfl (Nat.le_of_ble_eq_true rfl) d_X12_readsThing_3 (fun H locs hw => ?_)
  refine lv_if_eq (tgt := 23) hx hb d_X12_readsThing_6 (by decide) (fun hc => ?_) (fun hc => ?_)
  · have h := ite_t h hc
    refine lv_aload_n hx hb d_X12_readsThing_23 rfl (lv_at hl 0 rfl) ?_
    obtain ⟨q3, e4, h⟩ := bd_some h
    refine r_callV (As := []) (rest := []) (st' := [.int q3]) X hw hl mwX12_isDigit wd_1167 wp_20 wd_1165 (c_X12_isDigit hf e4) (r_recv X hw ct8 (o_300 hf)) rfl ⟨by show 1 + 1 ≤ d + 1 + 12; omega, by show 8 + (1 + 11) + 25 ≤ (d + 1) * 24 + 400; omega⟩ ⟨Nat.le_refl _, Nat.le_refl _⟩ rfl rfl (Nat.le_of_ble_eq_true rfl) d_X12_readsThing_24 (fun H locs hw => ?_)
    refine lv_if_eq (tgt := 41) hx hb d_X12_readsThing_27 (by decide) (fun hc => ?_) (fun hc => ?_)
    · have h := ite_t h hc
      refine lv_aload_n hx hb d_X12_readsThing_41 rfl (lv_at hl 0 rfl) ?_
      refine va_ldcS hx hb X.2.2.2.1 X.2.2.2.2.2.2.2.2.2.2.2.2.2.2.2.2.2.2.2.1 d_X12_readsThing_42 ?_
      obtain ⟨q5, e6, h⟩ := bd_some h
      refine r_callV (As := [.ref (gK G 4)]) (rest := []) (st' := [.int q5.1]) X hw hl mwX12_takesOf wd_1111 wp_18 wd_1109 (c_X12_takesOf hf (Nat.le_of_ble_eq_true rfl) e6) (r_recv X hw ct8 (o_300 hf)) rfl ⟨by show 6 + 1 ≤ d + 1 + 12; omega, by show 8 + (3 + 11) + 220 ≤ (d + 1) * 24 + 400; omega⟩ ⟨Nat.le_refl _, Nat.le_refl _⟩ rfl rfl (Nat.le_of_ble_eq_true rfl) d_X12_readsThing_44 (fun H locs hw => ?_)
      refine lv_istore_n (lv' := [(1, .int q5.1), (0, .ref (ga G 300))]) hx hb d_X12_readsThing_47 rfl hl (Nat.le_of_ble_eq_true rfl) rfl (fun ls hl => ?_)
      refine lv_iload_n hx hb d_X12_readsThing_48 rfl (lv_at hl 0 rfl) ?_
      refine lv_if_lt (tgt := 63) hx hb d_X12_readsThing_49 (by decide) (fun hc => ?_) (fun hc => ?_)
      · have h := ite_t h hc
        refine lv_aload_n hx hb d_X12_readsThing_63 rfl (lv_at hl 1 rfl) ?_
        refine m_geti (j := 12) X hw ct8 (o_300 hf) (Nat.le_of_ble_eq_true rfl) rfl (Nat.le_of_ble_eq_true rfl) wd_968 d_X12_readsThing_64 ?_
        refine lv_iconst (v := (4 : Int32)) hx hb d_X12_readsThing_67 (by decide) ?_
        refine lv_icmp_eq (tgt := 80) hx hb d_X12_readsThing_68 (by decide) (fun hc => ?_) (fun hc => ?_)
        · have h := ite_t h hc
          refine lv_iconst (v := (0 : Int32)) hx hb d_X12_readsThing_80 (by decide) ?_
          obtain rfl := Option.some.inj h
          subst hQ
          exact r_zret X hr nbz0 hlk hw d_X12_readsThing_81
        · have h := ite_f h hc
          refine lv_aload_n hx hb d_X12_readsThing_71 rfl (lv_at hl 1 rfl) ?_
          refine lv_bipush (v := (40 : Int32)) hx hb d_X12_readsThing_72 (by decide) ?_
          obtain ⟨q7, e8, h⟩ := bd_some h
          refine r_callV (As := [.int (40 : Int32)]) (rest := []) (st' := [.int q7.1]) X hw hl mwX12_takes wd_1177 wp_22 wd_1175 (c_X12_takes hf e8) (r_recv X hw ct8 (o_300 hf)) rfl ⟨by show 1 + 1 ≤ d + 1 + 12; omega, by show 8 + (3 + 11) + 20 ≤ (d + 1) * 24 + 400; omega⟩ ⟨Nat.le_refl _, Nat.le_refl _⟩ rfl rfl (Nat.le_of_ble_eq_true rfl) d_X12_readsThing_74 (fun H locs hw => ?_)
          refine lv_if_ne (tgt := 82) hx hb d_X12_readsThing_77 (by decide) (fun hc => ?_) (fun hc => ?_)
          · have h := ite_f h hc
            refine lv_aload_n hx hb d_X12_readsThing_82 rfl (lv_at hl 1 rfl) ?_
            refine lv_dup hx hb d_X12_readsThing_83 rfl ?_
            refine m_geti (j := 12) X hw ct8 (o_300 hf) (Nat.le_of_ble_eq_true rfl) rfl (Nat.le_of_ble_eq_true rfl) wd_968 d_X12_readsThing_84 ?_
            refine lv_iconst (v := (1 : Int32)) hx hb d_X12_readsThing_87 (by decide) ?_
            refine lv_iadd hx hb d_X12_readsThing_88 ?_
            refine m_puti (j := 12) X hw ct8 (o_300 hf) (Nat.le_of_ble_eq_true rfl) rfl (Nat.le_of_ble_eq_true rfl) rfl rfl rfl wd_968 d_X12_readsThing_89 (fun H locs hw => ?_)
            refine lv_aload_n hx hb d_X12_readsThing_92 rfl (lv_at hl 1 rfl) ?_
            refine lv_iconst (v := (0 : Int32)) hx hb d_X12_readsThing_93 (by decide) ?_
            obtain ⟨q9, e10, h⟩ := bd_some h
            refine r_callV (As := [.int (0 : Int32)]) (rest := []) (st' := [.int q9.1]) X hw hl mwX12_readsRank wd_1196 wp_25 wd_1194 (hrec_X12_readsRank e10) (r_recv X hw ct8 (o_300 hf)) rfl ⟨Nat.le_refl _, by show 8 + (4 + 11) + (d * 24 + 400) ≤ (d + 1) * 24 + 400; omega⟩ ⟨Nat.le_refl _, Nat.le_refl _⟩ rfl rfl (Nat.le_of_ble_eq_true rfl) d_X12_readsThing_94 (fun H locs hw => ?_)
            refine lv_if_eq (tgt := 109) hx hb d_X12_readsThing_97 (by decide) (fun hc => ?_) (fun hc => ?_)
            · have h := ite_t h hc
              refine lv_iconst (v := (0 : Int32)) hx hb d_X12_readsThing_109 (by decide) ?_
              obtain rfl := Option.some.inj h
              subst hQ
              exact r_zret X hr nbz0 hlk hw d_X12_readsThing_110
            · have h := ite_f h hc
              refine lv_aload_n hx hb d_X12_readsThing_100 rfl (lv_at hl 1 rfl) ?_
              refine lv_bipush (v := (41 : Int32)) hx hb d_X12_readsThing_101 (by decide) ?_
              obtain ⟨q11, e12, h⟩ := bd_some h
              refine r_callV (As := [.int (41 : Int32)]) (rest := []) (st' := [.int q11.1]) X hw hl mwX12_takes wd_1177 wp_22 wd_1175 (c_X12_takes hf e12) (r_recv X hw ct8 (o_300 hf)) rfl ⟨by show 1 + 1 ≤ d + 1 + 12; omega, by show 8 + (3 + 11) + 20 ≤ (d + 1) * 24 + 400; omega⟩ ⟨Nat.le_refl _, Nat.le_refl _⟩ rfl rfl (Nat.le_of_ble_eq_true rfl) d_X12_readsThing_103 (fun H locs hw => ?_)
              refine lv_if_ne (tgt := 111) hx hb d_X12_readsThing_106 (by decide) (fun hc => ?_) (fun hc => ?_)
              · have h := ite_f h hc
                refine lv_aload_n hx hb d_X12_readsThing_111 rfl (lv_at hl 1 rfl) ?_
                refine lv_dup hx hb d_X12_readsThing_112 rfl ?_
                refine m_geti (j := 12) X hw ct8 (o_300 hf) (Nat.le_of_ble_eq_true rfl) rfl (Nat.le_of_ble_eq_true rfl) wd_968 d_X12_readsThing_113 ?_
                refine lv_iconst (v := (1 : Int32)) hx hb d_X12_readsThing_116 (by decide) ?_
                refine lv_isub hx hb d_X12_readsThing_117 ?_
                refine m_puti (j := 12) X hw ct8 (o_300 hf) (Nat.le_of_ble_eq_true rfl) rfl (Nat.le_of_ble_eq_true rfl) rfl rfl rfl wd_968 d_X12_readsThing_118 (fun H locs hw => ?_)
                refine lv_iconst (v := (1 : Int32)) hx hb d_X12_readsThing_121 (by decide) ?_
                obtain rfl := Option.some.inj h
                subst hQ
                exact r_zret X hr nbz1 hlk hw d_X12_readsThing_122
              · have h := ite_t h hc
                refine lv_iconst (v := (0 : Int32)) hx hb d_X12_readsThing_109 (by decide) ?_
                obtain rfl := Option.some.inj h
                subst hQ
                exact r_zret X hr nbz0 hlk hw d_X12_readsThing_110
          · have h := ite_t h hc
            refine lv_iconst (v := (0 : Int32)) hx hb d_X12_readsThing_80 (by decide) ?_
            obtain rfl := Option.some.inj h
            subst hQ
            exact r_zret X hr nbz0 hlk hw d_X12_readsThing_81
      · have h := ite_f h hc
        refine lv_aload_n hx hb d_X12_readsThing_52 rfl (lv_at hl 1 rfl) ?_
        refine lv_sipush (v := (1000 : Int32)) hx hb d_X12_readsThing_53 (by decide) ?_
        refine lv_iload_n hx hb d_X12_readsThing_56 rfl (lv_at hl 0 rfl) ?_
        refine lv_iadd hx hb d_X12_readsThing_57 ?_
        obtain ⟨q13, e14, h⟩ := bd_some h
        refine r_callV (As := [.int ((1000 : Int32) + q5.1)]) (rest := []) (st' := []) X hw hl mwX12_codes wd_1204 wp_27 wd_1202 (c_X12_codes hf e14) (r_recv X hw ct8 (o_300 hf)) rfl ⟨by show 0 + 1 ≤ d + 1 + 12; omega, by show 8 + (2 + 11) + 0 ≤ (d + 1) * 24 + 400; omega⟩ ⟨Nat.le_refl _, Nat.le_refl _⟩ rfl rfl (Nat.le_of_ble_eq_true rfl) d_X12_readsThing_58 (fun H locs hw => ?_)
        refine lv_iconst (v := (1 : Int32)) hx hb d_X12_readsThing_61 (by decide) ?_
        obtain rfl := Option.some.inj h
        subst hQ
        exact r_zret X hr nbz1 hlk hw d_X12_readsThing_62
    · have h := ite_f h hc
      refine lv_aload_n hx hb d_X12_readsThing_30 rfl (lv_at hl 0 rfl) ?_
      refine lv_aload_n hx hb d_X12_readsThing_31 rfl (lv_at hl 0 rfl) ?_
      refine lv_iconst (v := (3 : Int32)) hx hb d_X12_readsThing_32 (by decide) ?_
      obtain ⟨q15, e16, h⟩ := bd_some h
      refine r_callV (As := [.int (3 : Int32)]) (rest := [.ref (ga G 300)]) (st' := [.int q15.1, .ref (ga G 300)]) X hw hl mwX12_number wd_1163 wp_19 wd_1161 (c_X12_number hf e16) (r_recv X hw ct8 (o_300 hf)) rfl ⟨by show 2 + 1 ≤ d + 1 + 12; omega, by show 8 + (4 + 11) + 45 ≤ (d + 1) * 24 + 400; omega⟩ ⟨Nat.le_refl _, Nat.le_refl _⟩ rfl rfl (Nat.le_of_ble_eq_true rfl) d_X12_readsThing_33 (fun H locs hw => ?_)
      obtain ⟨q17, e18, h⟩ := bd_some h
      refine r_callV (As := [.int q15.1]) (rest := []) (st' := []) X hw hl mwX12_codes wd_1204 wp_27 wd_1202 (c_X12_codes hf e18) (r_recv X hw ct8 (o_300 hf)) rfl ⟨by show 0 + 1 ≤ d + 1 + 12; omega, by show 8 + (2 + 11) + 0 ≤ (d + 1) * 24 + 400; omega⟩ ⟨Nat.le_refl _, Nat.le_refl _⟩ rfl rfl (Nat.le_of_ble_eq_true rfl) d_X12_readsThing_36 (fun H locs hw => ?_)
      refine lv_iconst (v := (1 : Int32)) hx hb d_X12_readsThing_39 (by decide) ?_
      obtain rfl := Option.some.inj h
      subst hQ
      exact r_zret X hr nbz1 hlk hw d_X12_readsThing_40
  · have h := ite_f h hc
    refine lv_aload_n hx hb d_X12_readsThing_9 rfl (lv_at hl 0 rfl) ?_
    obtain ⟨q19, e20, h⟩ := bd_some h
    refine r_callV (As := []) (rest := []) (st' := [.int q19.1]) X hw hl mwX12_readsThing wd_1200 wp_26 wd_1198 (hrec_X12_readsThing e20) (r_recv X hw ct8 (o_300 hf)) rfl ⟨Nat.le_refl _, by show 8 + (2 + 11) + (d * 24 + 400) ≤ (d + 1) * 24 + 400; omega⟩ ⟨Nat.le_refl _, Nat.le_refl _⟩ rfl rfl (Nat.le_of_ble_eq_true rfl) d_X12_readsThing_10 (fun H locs hw => ?_)
    refine lv_istore_n (lv' := [(1, .int q19.1), (0, .ref (ga G 300))]) hx hb d_X12_readsThing_13 rfl hl (Nat.le_of_ble_eq_true rfl) rfl (fun ls hl => ?_)
    refine lv_aload_n hx hb d_X12_readsThing_14 rfl (lv_at hl 1 rfl) ?_
    refine lv_sipush (v := (3000 : Int32)) hx hb d_X12_readsThing_15 (by decide) ?_
    obtain ⟨q21, e22, h⟩ := bd_some h
    refine r_callV (As := [.int (3000 : Int32)]) (rest := []) (st' := []) X hw hl mwX12_codes wd_1204 wp_27 wd_1202 (c_X12_codes hf e22) (r_recv X hw ct8 (o_300 hf)) rfl ⟨by show 0 + 1 ≤ d + 1 + 12; omega, by show 8 + (2 + 11) + 0 ≤ (d + 1) * 24 + 400; omega⟩ ⟨Nat.le_refl _, Nat.le_refl _⟩ rfl rfl (Nat.le_of_ble_eq_true rfl) d_X12_readsThing_18 (fun H locs hw => ?_)
    refine lv_iload_n hx hb d_X12_readsThing_21 rfl (lv_at hl 0 rfl) ?_
    obtain ⟨hv23, h⟩ := gd_some h
    obtain rfl := Option.some.inj h
    subst hQ
    exact r_zret X hr (nb_of hv23) hlk hw d_X12_readsThing_22
theorem d_X12_readsRank_0 : decode prog_14_method_32_code 0 = .ok (.iload_n 1, 1) := by decide +kernel
theorem d_X12_readsRank_1 : decode prog_14_method_32_code 1 = .ok (.iconst 3, 1) := by decide +kernel
theorem d_X12_readsRank_2 : decode prog_14_method_32_code 2 = .ok (.if_icmp .ne 8, 3) := by decide +kernel
theorem d_X12_readsRank_5 : decode prog_14_method_32_code 5 = .ok (.aload_n 0, 1) := by decide +kernel
theorem d_X12_readsRank_6 : decode prog_14_method_32_code 6 = .ok (.invokevirtual 196, 3) := by decide +kernel
theorem d_X12_readsRank_9 : decode prog_14_method_32_code 9 = .ok (.ireturn, 1) := by decide +kernel
theorem d_X12_readsRank_10 : decode prog_14_method_32_code 10 = .ok (.aload_n 0, 1) := by decide +kernel
theorem d_X12_readsRank_11 : decode prog_14_method_32_code 11 = .ok (.iload_n 1, 1) := by decide +kernel
theorem d_X12_readsRank_12 : decode prog_14_method_32_code 12 = .ok (.iconst 1, 1) := by decide +kernel
theorem d_X12_readsRank_13 : decode prog_14_method_32_code 13 = .ok (.iadd, 1) := by decide +kernel
theorem d_X12_readsRank_14 : decode prog_14_method_32_code 14 = .ok (.invokevirtual 205, 3) := by decide +kernel
theorem d_X12_readsRank_17 : decode prog_14_method_32_code 17 = .ok (.ifCond .ne 5, 3) := by decide +kernel
theorem d_X12_readsRank_20 : decode prog_14_method_32_code 20 = .ok (.iconst 0, 1) := by decide +kernel
theorem d_X12_readsRank_21 : decode prog_14_method_32_code 21 = .ok (.ireturn, 1) := by decide +kernel
theorem d_X12_readsRank_22 : decode prog_14_method_32_code 22 = .ok (.iconst 1, 1) := by decide +kernel
theorem d_X12_readsRank_23 : decode prog_14_method_32_code 23 = .ok (.istore_n 2, 1) := by decide +kernel
theorem d_X12_readsRank_24 : decode prog_14_method_32_code 24 = .ok (.iload_n 2, 1) := by decide +kernel
theorem d_X12_readsRank_25 : decode prog_14_method_32_code 25 = .ok (.ifCond .eq 88, 3) := by decide +kernel
theorem d_X12_readsRank_28 : decode prog_14_method_32_code 28 = .ok (.aload_n 0, 1) := by decide +kernel
theorem d_X12_readsRank_29 : decode prog_14_method_32_code 29 = .ok (.iload_n 1, 1) := by decide +kernel
theorem d_X12_readsRank_30 : decode prog_14_method_32_code 30 = .ok (.ifCond .ne 8, 3) := by decide +kernel
theorem d_X12_readsRank_33 : decode prog_14_method_32_code 33 = .ok (.ldc 208, 2) := by decide +kernel
theorem d_X12_readsRank_35 : decode prog_14_method_32_code 35 = .ok (.goto 15, 3) := by decide +kernel
theorem d_X12_readsRank_38 : decode prog_14_method_32_code 38 = .ok (.iload_n 1, 1) := by decide +kernel
theorem d_X12_readsRank_39 : decode prog_14_method_32_code 39 = .ok (.iconst 1, 1) := by decide +kernel
theorem d_X12_readsRank_40 : decode prog_14_method_32_code 40 = .ok (.if_icmp .ne 8, 3) := by decide +kernel
theorem d_X12_readsRank_43 : decode prog_14_method_32_code 43 = .ok (.ldc 210, 2) := by decide +kernel
theorem d_X12_readsRank_45 : decode prog_14_method_32_code 45 = .ok (.goto 5, 3) := by decide +kernel
theorem d_X12_readsRank_48 : decode prog_14_method_32_code 48 = .ok (.ldc 212, 2) := by decide +kernel
theorem d_X12_readsRank_50 : decode prog_14_method_32_code 50 = .ok (.invokevirtual 166, 3) := by decide +kernel
theorem d_X12_readsRank_53 : decode prog_14_method_32_code 53 = .ok (.istore_n 3, 1) := by decide +kernel
theorem d_X12_readsRank_54 : decode prog_14_method_32_code 54 = .ok (.iload_n 3, 1) := by decide +kernel
theorem d_X12_readsRank_55 : decode prog_14_method_32_code 55 = .ok (.ifCond .ge 5, 3) := by decide +kernel
theorem d_X12_readsRank_58 : decode prog_14_method_32_code 58 = .ok (.iconst 1, 1) := by decide +kernel
theorem d_X12_readsRank_59 : decode prog_14_method_32_code 59 = .ok (.ireturn, 1) := by decide +kernel
theorem d_X12_readsRank_60 : decode prog_14_method_32_code 60 = .ok (.aload_n 0, 1) := by decide +kernel
theorem d_X12_readsRank_61 : decode prog_14_method_32_code 61 = .ok (.iload_n 1, 1) := by decide +kernel
theorem d_X12_readsRank_62 : decode prog_14_method_32_code 62 = .ok (.iconst 1, 1) := by decide +kernel
theorem d_X12_readsRank_63 : decode prog_14_method_32_code 63 = .ok (.iadd, 1) := by decide +kernel
theorem d_X12_readsRank_64 : decode prog_14_method_32_code 64 = .ok (.invokevirtual 205, 3) := by decide +kernel
theorem d_X12_readsRank_67 : decode prog_14_method_32_code 67 = .ok (.ifCond .ne 5, 3) := by decide +kernel
theorem d_X12_readsRank_70 : decode prog_14_method_32_code 70 = .ok (.iconst 0, 1) := by decide +kernel
theorem d_X12_readsRank_71 : decode prog_14_method_32_code 71 = .ok (.ireturn, 1) := by decide +kernel
theorem d_X12_readsRank_72 : decode prog_14_method_32_code 72 = .ok (.aload_n 0, 1) := by decide +kernel
theorem d_X12_readsRank_73 : decode prog_14_method_32_code 73 = .ok (.sipush 2000, 3) := by decide +kernel
theorem d_X12_readsRank_76 : decode prog_14_method_32_code 76 = .ok (.iload_n 3, 1) := by decide +kernel
theorem d_X12_readsRank_77 : decode prog_14_method_32_code 77 = .ok (.iadd, 1) := by decide +kernel
theorem d_X12_readsRank_78 : decode prog_14_method_32_code 78 = .ok (.iload_n 1, 1) := by decide +kernel
theorem d_X12_readsRank_79 : decode prog_14_method_32_code 79 = .ok (.ifCond .ne 7, 3) := by decide +kernel
theorem d_X12_readsRank_82 : decode prog_14_method_32_code 82 = .ok (.iconst 0, 1) := by decide +kernel
theorem d_X12_readsRank_83 : decode prog_14_method_32_code 83 = .ok (.goto 13, 3) := by decide +kernel
theorem d_X12_readsRank_86 : decode prog_14_method_32_code 86 = .ok (.iload_n 1, 1) := by decide +kernel
theorem d_X12_readsRank_87 : decode prog_14_method_32_code 87 = .ok (.iconst 1, 1) := by decide +kernel
theorem d_X12_readsRank_88 : decode prog_14_method_32_code 88 = .ok (.if_icmp .ne 7, 3) := by decide +kernel
theorem d_X12_readsRank_91 : decode prog_14_method_32_code 91 = .ok (.iconst 3, 1) := by decide +kernel
theorem d_X12_readsRank_92 : decode prog_14_method_32_code 92 = .ok (.goto 4, 3) := by decide +kernel
theorem d_X12_readsRank_95 : decode prog_14_method_32_code 95 = .ok (.iconst 5, 1) := by decide +kernel
theorem d_X12_readsRank_96 : decode prog_14_method_32_code 96 = .ok (.iadd, 1) := by decide +kernel
theorem d_X12_readsRank_97 : decode prog_14_method_32_code 97 = .ok (.invokevirtual 199, 3) := by decide +kernel
theorem d_X12_readsRank_100 : decode prog_14_method_32_code 100 = .ok (.iload_n 1, 1) := by decide +kernel
theorem d_X12_readsRank_101 : decode prog_14_method_32_code 101 = .ok (.ifCond .le 7, 3) := by decide +kernel
theorem d_X12_readsRank_104 : decode prog_14_method_32_code 104 = .ok (.iconst 1, 1) := by decide +kernel
theorem d_X12_readsRank_105 : decode prog_14_method_32_code 105 = .ok (.goto 4, 3) := by decide +kernel
theorem d_X12_readsRank_108 : decode prog_14_method_32_code 108 = .ok (.iconst 0, 1) := by decide +kernel
theorem d_X12_readsRank_109 : decode prog_14_method_32_code 109 = .ok (.istore_n 2, 1) := by decide +kernel
theorem d_X12_readsRank_110 : decode prog_14_method_32_code 110 = .ok (.goto (-86), 3) := by decide +kernel
theorem d_X12_readsRank_113 : decode prog_14_method_32_code 113 = .ok (.iconst 1, 1) := by decide +kernel
theorem d_X12_readsRank_114 : decode prog_14_method_32_code 114 = .ok (.ireturn, 1) := by decide +kernel
def f_X12_readsRank_j109_24 (rec_X12_readsThing : St → Option (Int32 × St)) (rec_X12_readsRank : St → Int32 → Option (Int32 × St)) (τ : St) (x1 : Int32) (s0 : Int32) : Option ((Int32 × St) ⊕ ((Int32 × St) ⊕ (St))) := some (.inl (s0, τ))
def f_X12_readsRank_j96_24 (rec_X12_readsThing : St → Option (Int32 × St)) (rec_X12_readsRank : St → Int32 → Option (Int32 × St)) (τ : St) (x1 : Int32) (s1 : Int32) (s2 : Int32) : Option ((Int32 × St) ⊕ ((Int32 × St) ⊕ (St))) := (f_X12_codes τ (s1 + s2)).bind (fun q7 => f_X12_readsRank_j109_24 rec_X12_readsThing rec_X12_readsRank q7 x1 (if x1 ≤ 0 then (0 : Int32) else (1 : Int32)))
def f_X12_readsRank_j50_24 (rec_X12_readsThing : St → Option (Int32 × St)) (rec_X12_readsRank : St → Int32 → Option (Int32 × St)) (τ : St) (x1 : Int32) (s1 : Nat) : Option ((Int32 × St) ⊕ ((Int32 × St) ⊕ (St))) := (f_X12_takesOf τ s1).bind (fun q3 => (if 0 ≤ q3.1 then (rec_X12_readsRank q3.2 (x1 + (1 : Int32))).bind (fun q5 => (if q5.1 = 0 then some (.inr (.inl ((0 : Int32), q5.2))) else f_X12_readsRank_j96_24 rec_X12_readsThing rec_X12_readsRank q5.2 x1 ((2000 : Int32) + q3.1) (if x1 = 0 then (0 : Int32) else (if x1 = (1 : Int32) then (3 : Int32) else (5 : Int32))))) else some (.inr (.inl ((1 : Int32), q3.2)))))
def f_X12_readsRank_s24 (rec_X12_readsThing : St → Option (Int32 × St)) (rec_X12_readsRank : St → Int32 → Option (Int32 × St)) (τ : St) (y1 : Int32) (x2 : Int32) : Option ((Int32 × St) ⊕ ((Int32 × St) ⊕ (St))) := (if x2 = 0 then some (.inr (.inr τ)) else (if y1 = 0 then f_X12_readsRank_j50_24 rec_X12_readsThing rec_X12_readsRank τ y1 5 else (if y1 = (1 : Int32) then f_X12_readsRank_j50_24 rec_X12_readsThing rec_X12_readsRank τ y1 6 else f_X12_readsRank_j50_24 rec_X12_readsThing rec_X12_readsRank τ y1 7)))
def f_X12_readsRank_b (rec_X12_readsThing : St → Option (Int32 × St)) (rec_X12_readsRank : St → Int32 → Option (Int32 × St)) (σ : St) (a1 : Int32) : Option (Int32 × St) := (if a1 = (3 : Int32) then (rec_X12_readsThing σ).bind (fun q12 => gd (nb q12.1) (some (q12.1, q12.2))) else (rec_X12_readsRank σ (a1 + (1 : Int32))).bind (fun q1 => (if q1.1 = 0 then some ((0 : Int32), q1.2) else (iter (fun z => f_X12_readsRank_s24 rec_X12_readsThing rec_X12_readsRank z.2 a1 z.1) FU ((1 : Int32), q1.2)).bind (Sum.elim (fun r => some r) (fun z9 => some ((1 : Int32), z9))))))
theorem c_X12_readsRank_b {l : Launch} {G : gT} {χ σ : St} {d : Nat} (rec_X12_readsThing : St → Option (Int32 × St)) (rec_X12_readsRank : St → Int32 → Option (Int32 × St)) {a1 : Int32} (hf : FW G) (hrec_X12_readsThing : ∀ {χ σ : St} {q : Int32 × St}, rec_X12_readsThing σ = some q → Ct l G yX12_readsThing prog_14_method_31_code 2 (some .boolean) (d + 12) (d * 24 + 400) [.ref (ga G 300)] χ σ (some (.int q.1)) χ q.2) (hrec_X12_readsRank : ∀ {χ σ : St} {a1 : Int32} {q : Int32 × St}, rec_X12_readsRank σ a1 = some q → Ct l G yX12_readsRank prog_14_method_32_code 4 (some .boolean) (d + 12) (d * 24 + 400) [.ref (ga G 300), .int a1] χ σ (some (.int q.1)) χ q.2) {q : Int32 × St} (h : f_X12_readsRank_b rec_X12_readsThing rec_X12_readsRank σ a1 = some q) : Ct l G yX12_readsRank prog_14_method_32_code 4 (some .boolean) (d + 1 + 12) ((d + 1) * 24 + 400) [.ref (ga G 300), .int a1] χ σ (some (.int q.1)) χ q.2 := by
  refine Ct.of (by decide) (Nat.le_of_ble_eq_true rfl) ?_
  intro p e s m args below meth c Q X hr hlk hQ
  have hx := X.1
  have hb := X.2.1
  have j109_24 : ∀ (τ : St) (x1 : Int32) (s0 : Int32) (o : (Int32 × St) ⊕ ((Int32 × St) ⊕ (St))), f_X12_readsRank_j109_24 rec_X12_readsThing rec_X12_readsRank τ x1 s0 = some o → Sum.elim (fun z : Int32 × St => Wat p l e (rmk (d + 1 + 12) ((d + 1) * 24 + 400)) s m args below meth c Q G 4 24 [] [(2, .int z.1), (0, .ref (ga G 300)), (1, .int x1)] χ z.2) (Sum.elim (fun r : Int32 × St => r = q) (fun z : St => Wat p l e (rmk (d + 1 + 12) ((d + 1) * 24 + 400)) s m args below meth c Q G 4 113 [] [] χ z)) o → Wat p l e (rmk (d + 1 + 12) ((d + 1) * 24 + 400)) s m args below meth c Q G 4 109 [.int s0] [(0, .ref (ga G 300)), (1, .int x1)] χ τ := by
    intro τ x1 s0 o h hk H locs ls hw hl
    unfold f_X12_readsRank_j109_24 at h
    refine lv_istore_n (lv' := [(2, .int s0), (0, .ref (ga G 300)), (1, .int x1)]) hx hb d_X12_readsRank_109 rfl hl (Nat.le_of_ble_eq_true rfl) rfl (fun ls hl => ?_)
    refine lv_goto (tgt := 24) hx hb d_X12_readsRank_110 (by decide) ?_
    obtain rfl := Option.some.inj h
    dsimp only [Sum.elim_inl] at hk
    exact hk _ _ _ hw (lv_sub hl [0, 1, 2] rfl)
  have j96_24 : ∀ (τ : St) (x1 : Int32) (s1 : Int32) (s2 : Int32) (o : (Int32 × St) ⊕ ((Int32 × St) ⊕ (St))), f_X12_readsRank_j96_24 rec_X12_readsThing rec_X12_readsRank τ x1 s1 s2 = some o → Sum.elim (fun z : Int32 × St => Wat p l e (rmk (d + 1 + 12) ((d + 1) * 24 + 400)) s m args below meth c Q G 4 24 [] [(2, .int z.1), (0, .ref (ga G 300)), (1, .int x1)] χ z.2) (Sum.elim (fun r : Int32 × St => r = q) (fun z : St => Wat p l e (rmk (d + 1 + 12) ((d + 1) * 24 + 400)) s m args below meth c Q G 4 113 [] [] χ z)) o → Wat p l e (rmk (d + 1 + 12) ((d + 1) * 24 + 400)) s m args below meth c Q G 4 96 [.int s2, .int s1, .ref (ga G 300)] [(0, .ref (ga G 300)), (1, .int x1)] χ τ := by
    intro τ x1 s1 s2 o h hk H locs ls hw hl
    unfold f_X12_readsRank_j96_24 at h
    refine lv_iadd hx hb d_X12_readsRank_96 ?_
    obtain ⟨q7, e8, h⟩ := bd_some h
    refine r_callV (As := [.int (s1 + s2)]) (rest := []) (st' := []) X hw hl mwX12_codes wd_1204 wp_27 wd_1202 (c_X12_codes hf e8) (r_recv X hw ct8 (o_300 hf)) rfl ⟨by show 0 + 1 ≤ d + 1 + 12; omega, by show 8 + (2 + 11) + 0 ≤ (d + 1) * 24 + 400; omega⟩ ⟨Nat.le_refl _, Nat.le_refl _⟩ rfl rfl (Nat.le_of_ble_eq_true rfl) d_X12_readsRank_97 (fun H locs hw => ?_)
    refine lv_iload_n hx hb d_X12_readsRank_100 rfl (lv_at hl 1 rfl) ?_
    refine lv_if_le (tgt := 108) hx hb d_X12_readsRank_101 (by decide) (fun hc => ?_) (fun hc => ?_)
    · simp only [if_pos hc] at h
      refine lv_iconst (v := (0 : Int32)) hx hb d_X12_readsRank_108 (by decide) ?_
      exact j109_24 q7 x1 (0 : Int32) o h hk _ _ _ hw (lv_sub hl [0, 1] rfl)
    · simp only [if_neg hc] at h
      refine lv_iconst (v := (1 : Int32)) hx hb d_X12_readsRank_104 (by decide) ?_
      refine lv_goto (tgt := 109) hx hb d_X12_readsRank_105 (by decide) ?_
      exact j109_24 q7 x1 (1 : Int32) o h hk _ _ _ hw (lv_sub hl [0, 1] rfl)
  have j50_24 : ∀ (τ : St) (x1 : Int32) (s1 : Nat) (hs1 : s1 < 9) (o : (Int32 × St) ⊕ ((Int32 × St) ⊕ (St))), f_X12_readsRank_j50_24 rec_X12_readsThing rec_X12_readsRank τ x1 s1 = some o → Sum.elim (fun z : Int32 × St => Wat p l e (rmk (d + 1 + 12) ((d + 1) * 24 + 400)) s m args below meth c Q G 4 24 [] [(2, .int z.1), (0, .ref (ga G 300)), (1, .int x1)] χ z.2) (Sum.elim (fun r : Int32 × St => r = q) (fun z : St => Wat p l e (rmk (d + 1 + 12) ((d + 1) * 24 + 400)) s m args below meth c Q G 4 113 [] [] χ z)) o → Wat p l e (rmk (d + 1 + 12) ((d + 1) * 24 + 400)) s m args below meth c Q G 4 50 [.ref (gK G s1), .ref (ga G 300)] [(0, .ref (ga G 300)), (1, .int x1)] χ τ := by
    intro τ x1 s1 hs1 o h hk H locs ls hw hl
    unfold f_X12_readsRank_j50_24 at h
    obtain ⟨q3, e4, h⟩ := bd_some h
    refine r_callV (As := [.ref (gK G s1)]) (rest := []) (st' := [.int q3.1]) X hw hl mwX12_takesOf wd_1111 wp_18 wd_1109 (c_X12_takesOf hf hs1 e4) (r_recv X hw ct8 (o_300 hf)) rfl ⟨by show 6 + 1 ≤ d + 1 + 12; omega, by show 8 + (3 + 11) + 220 ≤ (d + 1) * 24 + 400; omega⟩ ⟨Nat.le_refl _, Nat.le_refl _⟩ rfl rfl (Nat.le_of_ble_eq_true rfl) d_X12_readsRank_50 (fun H locs hw => ?_)
    refine lv_istore_n (lv' := [(3, .int q3.1), (0, .ref (ga G 300)), (1, .int x1)]) hx hb d_X12_readsRank_53 rfl hl (Nat.le_of_ble_eq_true rfl) rfl (fun ls hl => ?_)
    refine lv_iload_n hx hb d_X12_readsRank_54 rfl (lv_at hl 0 rfl) ?_
    refine lv_if_ge (tgt := 60) hx hb d_X12_readsRank_55 (by decide) (fun hc => ?_) (fun hc => ?_)
    · have h := ite_t h hc
      refine lv_aload_n hx hb d_X12_readsRank_60 rfl (lv_at hl 1 rfl) ?_
      refine lv_iload_n hx hb d_X12_readsRank_61 rfl (lv_at hl 2 rfl) ?_
      refine lv_iconst (v := (1 : Int32)) hx hb d_X12_readsRank_62 (by decide) ?_
      refine lv_iadd hx hb d_X12_readsRank_63 ?_
      obtain ⟨q5, e6, h⟩ := bd_some h
      refine r_callV (As := [.int (x1 + (1 : Int32))]) (rest := []) (st' := [.int q5.1]) X hw hl mwX12_readsRank wd_1196 wp_25 wd_1194 (hrec_X12_readsRank e6) (r_recv X hw ct8 (o_300 hf)) rfl ⟨Nat.le_refl _, by show 8 + (4 + 11) + (d * 24 + 400) ≤ (d + 1) * 24 + 400; omega⟩ ⟨Nat.le_refl _, Nat.le_refl _⟩ rfl rfl (Nat.le_of_ble_eq_true rfl) d_X12_readsRank_64 (fun H locs hw => ?_)
      refine lv_if_ne (tgt := 72) hx hb d_X12_readsRank_67 (by decide) (fun hc => ?_) (fun hc => ?_)
      · have h := ite_f h hc
        refine lv_aload_n hx hb d_X12_readsRank_72 rfl (lv_at hl 1 rfl) ?_
        refine lv_sipush (v := (2000 : Int32)) hx hb d_X12_readsRank_73 (by decide) ?_
        refine lv_iload_n hx hb d_X12_readsRank_76 rfl (lv_at hl 0 rfl) ?_
        refine lv_iadd hx hb d_X12_readsRank_77 ?_
        refine lv_iload_n hx hb d_X12_readsRank_78 rfl (lv_at hl 2 rfl) ?_
        refine lv_if_ne (tgt := 86) hx hb d_X12_readsRank_79 (by decide) (fun hc => ?_) (fun hc => ?_)
        · simp only [if_neg hc] at h
          refine lv_iload_n hx hb d_X12_readsRank_86 rfl (lv_at hl 2 rfl) ?_
          refine lv_iconst (v := (1 : Int32)) hx hb d_X12_readsRank_87 (by decide) ?_
          refine lv_icmp_ne (tgt := 95) hx hb d_X12_readsRank_88 (by decide) (fun hc => ?_) (fun hc => ?_)
          · simp only [if_neg hc] at h
            refine lv_iconst (v := (5 : Int32)) hx hb d_X12_readsRank_95 (by decide) ?_
            exact j96_24 q5.2 x1 ((2000 : Int32) + q3.1) (5 : Int32) o h hk _ _ _ hw (lv_sub hl [1, 2] rfl)
          · simp only [if_pos hc] at h
            refine lv_iconst (v := (3 : Int32)) hx hb d_X12_readsRank_91 (by decide) ?_
            refine lv_goto (tgt := 96) hx hb d_X12_readsRank_92 (by decide) ?_
            exact j96_24 q5.2 x1 ((2000 : Int32) + q3.1) (3 : Int32) o h hk _ _ _ hw (lv_sub hl [1, 2] rfl)
        · simp only [if_pos hc] at h
          refine lv_iconst (v := (0 : Int32)) hx hb d_X12_readsRank_82 (by decide) ?_
          refine lv_goto (tgt := 96) hx hb d_X12_readsRank_83 (by decide) ?_
          exact j96_24 q5.2 x1 ((2000 : Int32) + q3.1) (0 : Int32) o h hk _ _ _ hw (lv_sub hl [1, 2] rfl)
      · have h := ite_t h hc
        refine lv_iconst (v := (0 : Int32)) hx hb d_X12_readsRank_70 (by decide) ?_
        obtain rfl := Option.some.inj h
        cases (show _ = q from hk)
        subst hQ
        exact r_zret X hr nbz0 hlk hw d_X12_readsRank_71
    · have h := ite_f h hc
      refine lv_iconst (v := (1 : Int32)) hx hb d_X12_readsRank_58 (by decide) ?_
      obtain rfl := Option.some.inj h
      cases (show _ = q from hk)
      subst hQ
      exact r_zret X hr nbz1 hlk hw d_X12_readsRank_59
  have b24 : ∀ (τ : St) (y1 : Int32) (x2 : Int32) (o : (Int32 × St) ⊕ ((Int32 × St) ⊕ (St))), f_X12_readsRank_s24 rec_X12_readsThing rec_X12_readsRank τ y1 x2 = some o → Sum.elim (fun z : Int32 × St => Wat p l e (rmk (d + 1 + 12) ((d + 1) * 24 + 400)) s m args below meth c Q G 4 24 [] [(2, .int z.1), (0, .ref (ga G 300)), (1, .int y1)] χ z.2) (Sum.elim (fun r : Int32 × St => r = q) (fun z : St => Wat p l e (rmk (d + 1 + 12) ((d + 1) * 24 + 400)) s m args below meth c Q G 4 113 [] [] χ z)) o → Wat p l e (rmk (d + 1 + 12) ((d + 1) * 24 + 400)) s m args below meth c Q G 4 24 [] [(2, .int x2), (0, .ref (ga G 300)), (1, .int y1)] χ τ := by
    intro τ y1 x2 o h hk H locs ls hw hl
    unfold f_X12_readsRank_s24 at h
    refine lv_iload_n hx hb d_X12_readsRank_24 rfl (lv_at hl 0 rfl) ?_
    refine lv_if_eq (tgt := 113) hx hb d_X12_readsRank_25 (by decide) (fun hc => ?_) (fun hc => ?_)
    · have h := ite_t h hc
      obtain rfl := Option.some.inj h
      dsimp only [Sum.elim_inr, Sum.elim_inl] at hk
      exact hk _ _ _ hw (lv_sub hl [] rfl)
    · have h := ite_f h hc
      refine lv_aload_n hx hb d_X12_readsRank_28 rfl (lv_at hl 1 rfl) ?_
      refine lv_iload_n hx hb d_X12_readsRank_29 rfl (lv_at hl 2 rfl) ?_
      refine lv_if_ne (tgt := 38) hx hb d_X12_readsRank_30 (by decide) (fun hc => ?_) (fun hc => ?_)
      · have h := ite_f h hc
        refine lv_iload_n hx hb d_X12_readsRank_38 rfl (lv_at hl 2 rfl) ?_
        refine lv_iconst (v := (1 : Int32)) hx hb d_X12_readsRank_39 (by decide) ?_
        refine lv_icmp_ne (tgt := 48) hx hb d_X12_readsRank_40 (by decide) (fun hc => ?_) (fun hc => ?_)
        · have h := ite_f h hc
          refine va_ldcS hx hb X.2.2.2.1 X.2.2.2.2.2.2.2.2.2.2.2.2.2.2.2.2.2.2.2.2.2.2.1 d_X12_readsRank_48 ?_
          exact j50_24 τ y1 7 (Nat.le_of_ble_eq_true rfl) o h hk _ _ _ hw (lv_sub hl [1, 2] rfl)
        · have h := ite_t h hc
          refine va_ldcS hx hb X.2.2.2.1 X.2.2.2.2.2.2.2.2.2.2.2.2.2.2.2.2.2.2.2.2.2.1 d_X12_readsRank_43 ?_
          refine lv_goto (tgt := 50) hx hb d_X12_readsRank_45 (by decide) ?_
          exact j50_24 τ y1 6 (Nat.le_of_ble_eq_true rfl) o h hk _ _ _ hw (lv_sub hl [1, 2] rfl)
      · have h := ite_t h hc
        refine va_ldcS hx hb X.2.2.2.1 X.2.2.2.2.2.2.2.2.2.2.2.2.2.2.2.2.2.2.2.2.1 d_X12_readsRank_33 ?_
        refine lv_goto (tgt := 50) hx hb d_X12_readsRank_35 (by decide) ?_
        exact j50_24 τ y1 5 (Nat.le_of_ble_eq_true rfl) o h hk _ _ _ hw (lv_sub hl [1, 2] rfl)
  intro H locs ls hw hl
  have hl : lv_has ls 4 [(0, .ref (ga G 300)), (1, .int a1)] := hl
  unfold f_X12_readsRank_b at h
  refine lv_iload_n hx hb d_X12_readsRank_0 rfl (lv_at hl 1 rfl) ?_
  refine lv_iconst (v := (3 : Int32)) hx hb d_X12_readsRank_1 (by decide) ?_
  refine lv_icmp_ne (tgt := 10) hx hb d_X12_readsRank_2 (by decide) (fun hc => ?_) (fun hc => ?_)
  · have h := ite_f h hc
    refine lv_aload_n hx hb d_X12_readsRank_10 rfl (lv_at hl 0 rfl) ?_
    refine lv_iload_n hx hb d_X12_readsRank_11 rfl (lv_at hl 1 rfl) ?_
    refine lv_iconst (v := (1 : Int32)) hx hb d_X12_readsRank_12 (by decide) ?_
    refine lv_iadd hx hb d_X12_readsRank_13 ?_
    obtain ⟨q1, e2, h⟩ := bd_some h
    refine r_callV (As := [.int (a1 + (1 : Int32))]) (rest := []) (st' := [.int q1.1]) X hw hl mwX12_readsRank wd_1196 wp_25 wd_1194 (hrec_X12_readsRank e2) (r_recv X hw ct8 (o_300 hf)) rfl ⟨Nat.le_refl _, by show 8 + (4 + 11) + (d * 24 + 400) ≤ (d + 1) * 24 + 400; omega⟩ ⟨Nat.le_refl _, Nat.le_refl _⟩ rfl rfl (Nat.le_of_ble_eq_true rfl) d_X12_readsRank_14 (fun H locs hw => ?_)
    refine lv_if_ne (tgt := 22) hx hb d_X12_readsRank_17 (by decide) (fun hc => ?_) (fun hc => ?_)
    · have h := ite_f h hc
      refine lv_iconst (v := (1 : Int32)) hx hb d_X12_readsRank_22 (by decide) ?_
      refine lv_istore_n (lv' := [(2, .int (1 : Int32)), (0, .ref (ga G 300)), (1, .int a1)]) hx hb d_X12_readsRank_23 rfl hl (Nat.le_of_ble_eq_true rfl) rfl (fun ls hl => ?_)
      obtain ⟨z9, e10, h⟩ := bd_some h
      refine iter_w (Wh := fun z : Int32 × St => Wat p l e (rmk (d + 1 + 12) ((d + 1) * 24 + 400)) s m args below meth c Q G 4 24 [] [(2, .int z.1), (0, .ref (ga G 300)), (1, .int a1)] χ z.2) (K := Sum.elim (fun r : Int32 × St => r = q) (fun z : St => Wat p l e (rmk (d + 1 + 12) ((d + 1) * 24 + 400)) s m args below meth c Q G 4 113 [] [] χ z)) (fun z o h1 h2 => b24 z.2 a1 z.1 o h1 h2) FU _ _ e10 ?_ _ _ _ hw (lv_sub hl [0, 1, 2] rfl)
      rcases z9 with r | z9
      · exact Option.some.inj h
      · dsimp only [Sum.elim_inr] at h ⊢
        intro H locs ls hw hl
        refine lv_iconst (v := (1 : Int32)) hx hb d_X12_readsRank_113 (by decide) ?_
        obtain rfl := Option.some.inj h
        subst hQ
        exact r_zret X hr nbz1 hlk hw d_X12_readsRank_114
    · have h := ite_t h hc
      refine lv_iconst (v := (0 : Int32)) hx hb d_X12_readsRank_20 (by decide) ?_
      obtain rfl := Option.some.inj h
      subst hQ
      exact r_zret X hr nbz0 hlk hw d_X12_readsRank_21
  · have h := ite_t h hc
    refine lv_aload_n hx hb d_X12_readsRank_5 rfl (lv_at hl 0 rfl) ?_
    obtain ⟨q12, e13, h⟩ := bd_some h
    refine r_callV (As := []) (rest := []) (st' := [.int q12.1]) X hw hl mwX12_readsThing wd_1200 wp_26 wd_1198 (hrec_X12_readsThing e13) (r_recv X hw ct8 (o_300 hf)) rfl ⟨Nat.le_refl _, by show 8 + (2 + 11) + (d * 24 + 400) ≤ (d + 1) * 24 + 400; omega⟩ ⟨Nat.le_refl _, Nat.le_refl _⟩ rfl rfl (Nat.le_of_ble_eq_true rfl) d_X12_readsRank_6 (fun H locs hw => ?_)
    obtain ⟨hv14, h⟩ := gd_some h
    obtain rfl := Option.some.inj h
    subst hQ
    exact r_zret X hr (nb_of hv14) hlk hw d_X12_readsRank_9
def fp_X12_readsThing : Nat → (St → Option (Int32 × St)) × (St → Int32 → Option (Int32 × St))
  | 0 => (fun _ => none, fun _ _ => none)
  | d + 1 => (f_X12_readsThing_b (fp_X12_readsThing d).1 (fp_X12_readsThing d).2, f_X12_readsRank_b (fp_X12_readsThing d).1 (fp_X12_readsThing d).2)
def f_X12_readsThing (d : Nat) (σ : St) : Option (Int32 × St) := (fp_X12_readsThing d).1 σ
def f_X12_readsRank (d : Nat) (σ : St) (a1 : Int32) : Option (Int32 × St) := (fp_X12_readsThing d).2 σ a1
theorem cd_X12_readsThing {l : Launch} {G : gT} (hf : FW G) : ∀ (d : Nat), (∀ {χ σ : St} {q : Int32 × St}, f_X12_readsThing d σ = some q → Ct l G yX12_readsThing prog_14_method_31_code 2 (some .boolean) (d + 12) (d * 24 + 400) [.ref (ga G 300)] χ σ (some (.int q.1)) χ q.2) ∧ (∀ {χ σ : St} {a1 : Int32} {q : Int32 × St}, f_X12_readsRank d σ a1 = some q → Ct l G yX12_readsRank prog_14_method_32_code 4 (some .boolean) (d + 12) (d * 24 + 400) [.ref (ga G 300), .int a1] χ σ (some (.int q.1)) χ q.2) := by
  intro d
  induction d with
  | zero => exact ⟨(by intro χ σ q h; cases h), (by intro χ σ a1 q h; cases h)⟩
  | succ d ih => exact ⟨(by intro χ σ q h; exact c_X12_readsThing_b (f_X12_readsThing d) (f_X12_readsRank d) hf ih.1 ih.2 h), (by intro χ σ a1 q h; exact c_X12_readsRank_b (f_X12_readsThing d) (f_X12_readsRank d) hf ih.1 ih.2 h)⟩
theorem c_X12_readsThing {l : Launch} {G : gT} {χ σ : St} {q : Int32 × St} (hf : FW G) (h : f_X12_readsThing 400 σ = some q) : Ct l G yX12_readsThing prog_14_method_31_code 2 (some .boolean) 412 10000 [.ref (ga G 300)] χ σ (some (.int q.1)) χ q.2 := (cd_X12_readsThing hf 400).1 h
theorem c_X12_readsRank {l : Launch} {G : gT} {χ σ : St} {a1 : Int32} {q : Int32 × St} (hf : FW G) (h : f_X12_readsRank 400 σ a1 = some q) : Ct l G yX12_readsRank prog_14_method_32_code 4 (some .boolean) 412 10000 [.ref (ga G 300), .int a1] χ σ (some (.int q.1)) χ q.2 := (cd_X12_readsThing hf 400).2 h
abbrev yX12_readsRule : MethodName := ⟨"OysterBedsModel", "readsRule", "()I"⟩
theorem mwX12_readsRule : MW yX12_readsRule prog_14_method_33_code 3 (some .int) 0 := ⟨wd_1193, wd_10, by decide +kernel⟩
theorem d_X12_readsRule_0 : decode prog_14_method_33_code 0 = .ok (.aload_n 0, 1) := by decide +kernel
theorem d_X12_readsRule_1 : decode prog_14_method_33_code 1 = .ok (.bipush 40, 2) := by decide +kernel
theorem d_X12_readsRule_3 : decode prog_14_method_33_code 3 = .ok (.invokevirtual 173, 3) := by decide +kernel
theorem d_X12_readsRule_6 : decode prog_14_method_33_code 6 = .ok (.istore_n 1, 1) := by decide +kernel
theorem d_X12_readsRule_7 : decode prog_14_method_33_code 7 = .ok (.aload_n 0, 1) := by decide +kernel
theorem d_X12_readsRule_8 : decode prog_14_method_33_code 8 = .ok (.iconst 0, 1) := by decide +kernel
theorem d_X12_readsRule_9 : decode prog_14_method_33_code 9 = .ok (.putfield 193, 3) := by decide +kernel
theorem d_X12_readsRule_12 : decode prog_14_method_33_code 12 = .ok (.iload_n 1, 1) := by decide +kernel
theorem d_X12_readsRule_13 : decode prog_14_method_33_code 13 = .ok (.ifCond .eq 11, 3) := by decide +kernel
theorem d_X12_readsRule_16 : decode prog_14_method_33_code 16 = .ok (.aload_n 0, 1) := by decide +kernel
theorem d_X12_readsRule_17 : decode prog_14_method_33_code 17 = .ok (.iconst 0, 1) := by decide +kernel
theorem d_X12_readsRule_18 : decode prog_14_method_33_code 18 = .ok (.invokevirtual 205, 3) := by decide +kernel
theorem d_X12_readsRule_21 : decode prog_14_method_33_code 21 = .ok (.ifCond .eq 7, 3) := by decide +kernel
theorem d_X12_readsRule_24 : decode prog_14_method_33_code 24 = .ok (.iconst 1, 1) := by decide +kernel
theorem d_X12_readsRule_25 : decode prog_14_method_33_code 25 = .ok (.goto 4, 3) := by decide +kernel
theorem d_X12_readsRule_28 : decode prog_14_method_33_code 28 = .ok (.iconst 0, 1) := by decide +kernel
theorem d_X12_readsRule_29 : decode prog_14_method_33_code 29 = .ok (.istore_n 2, 1) := by decide +kernel
theorem d_X12_readsRule_30 : decode prog_14_method_33_code 30 = .ok (.aload_n 0, 1) := by decide +kernel
theorem d_X12_readsRule_31 : decode prog_14_method_33_code 31 = .ok (.iload_n 1, 1) := by decide +kernel
theorem d_X12_readsRule_32 : decode prog_14_method_33_code 32 = .ok (.bipush 40, 2) := by decide +kernel
theorem d_X12_readsRule_34 : decode prog_14_method_33_code 34 = .ok (.iload_n 2, 1) := by decide +kernel
theorem d_X12_readsRule_35 : decode prog_14_method_33_code 35 = .ok (.invokevirtual 183, 3) := by decide +kernel
theorem d_X12_readsRule_38 : decode prog_14_method_33_code 38 = .ok (.ireturn, 1) := by decide +kernel
def f_X12_readsRule_j29 (τ : St) (x1 : Int32) (s0 : Int32) : Option (Int32 × St) := (f_X12_faultOf τ x1 (40 : Int32) s0).bind (fun q3 => some (q3, τ))
def f_X12_readsRule_j24 (τ : St) (x1 : Int32) : Option (Int32 × St) := f_X12_readsRule_j29 τ x1 (1 : Int32)
def f_X12_readsRule (σ : St) : Option (Int32 × St) := (f_X12_begins σ (40 : Int32)).bind (fun q1 => (if q1.1 = 0 then f_X12_readsRule_j24 (sF q1.2 300 18 (0 : Int32)) q1.1 else (f_X12_readsRank 400 (sF q1.2 300 18 (0 : Int32)) (0 : Int32)).bind (fun q5 => (if q5.1 = 0 then f_X12_readsRule_j29 q5.2 q1.1 (0 : Int32) else f_X12_readsRule_j24 q5.2 q1.1))))
theorem c_X12_readsRule {l : Launch} {G : gT} {χ σ : St} (hf : FW G) {q : Int32 × St} (h : f_X12_readsRule σ = some q) : Ct l G yX12_readsRule prog_14_method_33_code 3 (some .int) 413 10023 [.ref (ga G 300)] χ σ (some (.int q.1)) χ q.2 := by
  refine Ct.of (by decide) (Nat.le_of_ble_eq_true rfl) ?_
  intro p e s m args below meth c Q X hr hlk hQ
  have hx := X.1
  have hb := X.2.1
  have j29 : ∀ (τ : St) (x1 : Int32) (s0 : Int32), f_X12_readsRule_j29 τ x1 s0 = some q → Wat p l e (rmk 413 10023) s m args below meth c Q G 3 29 [.int s0] [(0, .ref (ga G 300)), (1, .int x1)] χ τ := by
    intro τ x1 s0 h H locs ls hw hl
    unfold f_X12_readsRule_j29 at h
    refine lv_istore_n (lv' := [(2, .int s0), (0, .ref (ga G 300)), (1, .int x1)]) hx hb d_X12_readsRule_29 rfl hl (Nat.le_of_ble_eq_true rfl) rfl (fun ls hl => ?_)
    refine lv_aload_n hx hb d_X12_readsRule_30 rfl (lv_at hl 1 rfl) ?_
    refine lv_iload_n hx hb d_X12_readsRule_31 rfl (lv_at hl 2 rfl) ?_
    refine lv_bipush (v := (40 : Int32)) hx hb d_X12_readsRule_32 (by decide) ?_
    refine lv_iload_n hx hb d_X12_readsRule_34 rfl (lv_at hl 0 rfl) ?_
    obtain ⟨q3, e4, h⟩ := bd_some h
    refine r_callV (As := [.int x1, .int (40 : Int32), .int s0]) (rest := []) (st' := [.int q3]) X hw hl mwX12_faultOf wd_1184 wp_23 wd_1182 (c_X12_faultOf hf e4) (r_recv X hw ct8 (o_300 hf)) rfl ⟨Nat.le_of_ble_eq_true rfl, Nat.le_of_ble_eq_true rfl⟩ ⟨Nat.le_refl _, Nat.le_refl _⟩ rfl rfl (Nat.le_of_ble_eq_true rfl) d_X12_readsRule_35 (fun H locs hw => ?_)
    obtain rfl := Option.some.inj h
    subst hQ
    exact r_iret X hr hlk hw d_X12_readsRule_38
  have j24 : ∀ (τ : St) (x1 : Int32), f_X12_readsRule_j24 τ x1 = some q → Wat p l e (rmk 413 10023) s m args below meth c Q G 3 24 [] [(0, .ref (ga G 300)), (1, .int x1)] χ τ := by
    intro τ x1 h H locs ls hw hl
    unfold f_X12_readsRule_j24 at h
    refine lv_iconst (v := (1 : Int32)) hx hb d_X12_readsRule_24 (by decide) ?_
    refine lv_goto (tgt := 29) hx hb d_X12_readsRule_25 (by decide) ?_
    exact j29 τ x1 (1 : Int32) h _ _ _ hw (lv_sub hl [0, 1] rfl)
  intro H locs ls hw hl
  have hl : lv_has ls 3 [(0, .ref (ga G 300))] := hl
  unfold f_X12_readsRule at h
  refine lv_aload_n hx hb d_X12_readsRule_0 rfl (lv_at hl 0 rfl) ?_
  refine lv_bipush (v := (40 : Int32)) hx hb d_X12_readsRule_1 (by decide) ?_
  obtain ⟨q1, e2, h⟩ := bd_some h
  refine r_callV (As := [.int (40 : Int32)]) (rest := []) (st' := [.int q1.1]) X hw hl mwX12_begins wd_1101 wp_16 wd_1099 (c_X12_begins hf e2) (r_recv X hw ct8 (o_300 hf)) rfl ⟨Nat.le_of_ble_eq_true rfl, Nat.le_of_ble_eq_true rfl⟩ ⟨Nat.le_refl _, Nat.le_refl _⟩ rfl rfl (Nat.le_of_ble_eq_true rfl) d_X12_readsRule_3 (fun H locs hw => ?_)
  refine lv_istore_n (lv' := [(1, .int q1.1), (0, .ref (ga G 300))]) hx hb d_X12_readsRule_6 rfl hl (Nat.le_of_ble_eq_true rfl) rfl (fun ls hl => ?_)
  refine lv_aload_n hx hb d_X12_readsRule_7 rfl (lv_at hl 1 rfl) ?_
  refine lv_iconst (v := (0 : Int32)) hx hb d_X12_readsRule_8 (by decide) ?_
  refine m_puti (j := 18) X hw ct8 (o_300 hf) (Nat.le_of_ble_eq_true rfl) rfl (Nat.le_of_ble_eq_true rfl) rfl rfl rfl wd_974 d_X12_readsRule_9 (fun H locs hw => ?_)
  refine lv_iload_n hx hb d_X12_readsRule_12 rfl (lv_at hl 0 rfl) ?_
  refine lv_if_eq (tgt := 24) hx hb d_X12_readsRule_13 (by decide) (fun hc => ?_) (fun hc => ?_)
  · have h := ite_t h hc
    exact j24 (sF q1.2 300 18 (0 : Int32)) q1.1 h _ _ _ hw (lv_sub hl [1, 0] rfl)
  · have h := ite_f h hc
    refine lv_aload_n hx hb d_X12_readsRule_16 rfl (lv_at hl 1 rfl) ?_
    refine lv_iconst (v := (0 : Int32)) hx hb d_X12_readsRule_17 (by decide) ?_
    obtain ⟨q5, e6, h⟩ := bd_some h
    refine r_callV (As := [.int (0 : Int32)]) (rest := []) (st' := [.int q5.1]) X hw hl mwX12_readsRank wd_1196 wp_25 wd_1194 (c_X12_readsRank hf e6) (r_recv X hw ct8 (o_300 hf)) rfl ⟨Nat.le_of_ble_eq_true rfl, Nat.le_of_ble_eq_true rfl⟩ ⟨Nat.le_refl _, Nat.le_refl _⟩ rfl rfl (Nat.le_of_ble_eq_true rfl) d_X12_readsRule_18 (fun H locs hw => ?_)
    refine lv_if_eq (tgt := 28) hx hb d_X12_readsRule_21 (by decide) (fun hc => ?_) (fun hc => ?_)
    · have h := ite_t h hc
      refine lv_iconst (v := (0 : Int32)) hx hb d_X12_readsRule_28 (by decide) ?_
      exact j29 q5.2 q1.1 (0 : Int32) h _ _ _ hw (lv_sub hl [1, 0] rfl)
    · have h := ite_f h hc
      exact j24 q5.2 q1.1 h _ _ _ hw (lv_sub hl [1, 0] rfl)
abbrev yX12_rule : MethodName := ⟨"OysterBedsModel", "rule", "()I"⟩
theorem mwX12_rule : MW yX12_rule prog_14_method_35_code 2 (some .int) 0 := ⟨wd_1189, wd_10, by decide +kernel⟩
theorem d_X12_rule_0 : decode prog_14_method_35_code 0 = .ok (.aload_n 0, 1) := by decide +kernel
theorem d_X12_rule_1 : decode prog_14_method_35_code 1 = .ok (.iconst 0, 1) := by decide +kernel
theorem d_X12_rule_2 : decode prog_14_method_35_code 2 = .ok (.putfield 87, 3) := by decide +kernel
theorem d_X12_rule_5 : decode prog_14_method_35_code 5 = .ok (.aload_n 0, 1) := by decide +kernel
theorem d_X12_rule_6 : decode prog_14_method_35_code 6 = .ok (.invokevirtual 217, 3) := by decide +kernel
theorem d_X12_rule_9 : decode prog_14_method_35_code 9 = .ok (.istore_n 1, 1) := by decide +kernel
theorem d_X12_rule_10 : decode prog_14_method_35_code 10 = .ok (.iload_n 1, 1) := by decide +kernel
theorem d_X12_rule_11 : decode prog_14_method_35_code 11 = .ok (.ifCond .ne 15, 3) := by decide +kernel
theorem d_X12_rule_14 : decode prog_14_method_35_code 14 = .ok (.aload_n 0, 1) := by decide +kernel
theorem d_X12_rule_15 : decode prog_14_method_35_code 15 = .ok (.aload_n 0, 1) := by decide +kernel
theorem d_X12_rule_16 : decode prog_14_method_35_code 16 = .ok (.getfield 32, 3) := by decide +kernel
theorem d_X12_rule_19 : decode prog_14_method_35_code 19 = .ok (.aload_n 0, 1) := by decide +kernel
theorem d_X12_rule_20 : decode prog_14_method_35_code 20 = .ok (.getfield 193, 3) := by decide +kernel
theorem d_X12_rule_23 : decode prog_14_method_35_code 23 = .ok (.invokevirtual 220, 3) := by decide +kernel
theorem d_X12_rule_26 : decode prog_14_method_35_code 26 = .ok (.iload_n 1, 1) := by decide +kernel
theorem d_X12_rule_27 : decode prog_14_method_35_code 27 = .ok (.ireturn, 1) := by decide +kernel
def f_X12_rule (σ : St) : Option (Int32 × St) := (f_X12_readsRule (sF σ 300 0 (0 : Int32))).bind (fun q1 => (if q1.1 = 0 then (f_X12_laysCode q1.2 316 (cF q1.2 300 18)).bind (fun q3 => some (q1.1, q3)) else some (q1.1, q1.2)))
theorem c_X12_rule {l : Launch} {G : gT} {χ σ : St} (hf : FW G) {q : Int32 × St} (h : f_X12_rule σ = some q) : Ct l G yX12_rule prog_14_method_35_code 2 (some .int) 414 10045 [.ref (ga G 300)] χ σ (some (.int q.1)) χ q.2 := by
  refine Ct.of (by decide) (Nat.le_of_ble_eq_true rfl) ?_
  intro p e s m args below meth c Q X hr hlk hQ
  have hx := X.1
  have hb := X.2.1
  intro H locs ls hw hl
  have hl : lv_has ls 2 [(0, .ref (ga G 300))] := hl
  unfold f_X12_rule at h
  refine lv_aload_n hx hb d_X12_rule_0 rfl (lv_at hl 0 rfl) ?_
  refine lv_iconst (v := (0 : Int32)) hx hb d_X12_rule_1 (by decide) ?_
  refine m_puti (j := 0) X hw ct8 (o_300 hf) (Nat.le_of_ble_eq_true rfl) rfl (Nat.le_of_ble_eq_true rfl) rfl rfl rfl wd_956 d_X12_rule_2 (fun H locs hw => ?_)
  refine lv_aload_n hx hb d_X12_rule_5 rfl (lv_at hl 0 rfl) ?_
  obtain ⟨q1, e2, h⟩ := bd_some h
  refine r_callV (As := []) (rest := []) (st' := [.int q1.1]) X hw hl mwX12_readsRule wd_1192 wp_24 wd_1190 (c_X12_readsRule hf e2) (r_recv X hw ct8 (o_300 hf)) rfl ⟨Nat.le_of_ble_eq_true rfl, Nat.le_of_ble_eq_true rfl⟩ ⟨Nat.le_refl _, Nat.le_refl _⟩ rfl rfl (Nat.le_of_ble_eq_true rfl) d_X12_rule_6 (fun H locs hw => ?_)
  refine lv_istore_n (lv' := [(1, .int q1.1), (0, .ref (ga G 300))]) hx hb d_X12_rule_9 rfl hl (Nat.le_of_ble_eq_true rfl) rfl (fun ls hl => ?_)
  refine lv_iload_n hx hb d_X12_rule_10 rfl (lv_at hl 0 rfl) ?_
  refine lv_if_ne (tgt := 26) hx hb d_X12_rule_11 (by decide) (fun hc => ?_) (fun hc => ?_)
  · have h := ite_f h hc
    refine lv_iload_n hx hb d_X12_rule_26 rfl (lv_at hl 0 rfl) ?_
    obtain rfl := Option.some.inj h
    subst hQ
    exact r_iret X hr hlk hw d_X12_rule_27
  · have h := ite_t h hc
    refine lv_aload_n hx hb d_X12_rule_14 rfl (lv_at hl 1 rfl) ?_
    refine lv_aload_n hx hb d_X12_rule_15 rfl (lv_at hl 1 rfl) ?_
    refine r_getr (j := 16) X hw ct8 (o_300 hf) rfl (Nat.le_of_ble_eq_true rfl) (q := 316) rfl wd_972 d_X12_rule_16 ?_
    refine lv_aload_n hx hb d_X12_rule_19 rfl (lv_at hl 1 rfl) ?_
    refine m_geti (j := 18) X hw ct8 (o_300 hf) (Nat.le_of_ble_eq_true rfl) rfl (Nat.le_of_ble_eq_true rfl) wd_974 d_X12_rule_20 ?_
    obtain ⟨q3, e4, h⟩ := bd_some h
    refine r_callV (As := [.ref (ga G 316), .int (cF q1.2 300 18)]) (rest := []) (st' := []) X hw hl mwX12_laysCode wd_1212 wp_28 wd_1210 (c_X12_laysCode hf (o_316 hf) (Nat.le_of_ble_eq_true rfl) e4) (r_recv X hw ct8 (o_300 hf)) rfl ⟨Nat.le_of_ble_eq_true rfl, Nat.le_of_ble_eq_true rfl⟩ ⟨Nat.le_refl _, Nat.le_refl _⟩ rfl rfl (Nat.le_of_ble_eq_true rfl) d_X12_rule_23 (fun H locs hw => ?_)
    refine lv_iload_n hx hb d_X12_rule_26 rfl (lv_at hl 0 rfl) ?_
    obtain rfl := Option.some.inj h
    subst hQ
    exact r_iret X hr hlk hw d_X12_rule_27
abbrev yX12_readsAct : MethodName := ⟨"OysterBedsModel", "readsAct", "()Z"⟩
theorem mwX12_readsAct : MW yX12_readsAct prog_14_method_56_code 2 (some .boolean) 0 := ⟨wd_1337, wd_10, by decide +kernel⟩
theorem d_X12_readsAct_0 : decode prog_14_method_56_code 0 = .ok (.aload_n 0, 1) := by decide +kernel
theorem d_X12_readsAct_1 : decode prog_14_method_56_code 1 = .ok (.getfield 296, 3) := by decide +kernel
theorem d_X12_readsAct_4 : decode prog_14_method_56_code 4 = .ok (.istore_n 1, 1) := by decide +kernel
theorem d_X12_readsAct_5 : decode prog_14_method_56_code 5 = .ok (.aload_n 0, 1) := by decide +kernel
theorem d_X12_readsAct_6 : decode prog_14_method_56_code 6 = .ok (.getfield 44, 3) := by decide +kernel
theorem d_X12_readsAct_9 : decode prog_14_method_56_code 9 = .ok (.iload_n 1, 1) := by decide +kernel
theorem d_X12_readsAct_10 : decode prog_14_method_56_code 10 = .ok (.aload_n 0, 1) := by decide +kernel
theorem d_X12_readsAct_11 : decode prog_14_method_56_code 11 = .ok (.ldc_w 299, 3) := by decide +kernel
theorem d_X12_readsAct_14 : decode prog_14_method_56_code 14 = .ok (.invokevirtual 166, 3) := by decide +kernel
theorem d_X12_readsAct_17 : decode prog_14_method_56_code 17 = .ok (.iastore, 1) := by decide +kernel
theorem d_X12_readsAct_18 : decode prog_14_method_56_code 18 = .ok (.aload_n 0, 1) := by decide +kernel
theorem d_X12_readsAct_19 : decode prog_14_method_56_code 19 = .ok (.dup, 1) := by decide +kernel
theorem d_X12_readsAct_20 : decode prog_14_method_56_code 20 = .ok (.getfield 296, 3) := by decide +kernel
theorem d_X12_readsAct_23 : decode prog_14_method_56_code 23 = .ok (.iconst 1, 1) := by decide +kernel
theorem d_X12_readsAct_24 : decode prog_14_method_56_code 24 = .ok (.iadd, 1) := by decide +kernel
theorem d_X12_readsAct_25 : decode prog_14_method_56_code 25 = .ok (.putfield 296, 3) := by decide +kernel
theorem d_X12_readsAct_28 : decode prog_14_method_56_code 28 = .ok (.aload_n 0, 1) := by decide +kernel
theorem d_X12_readsAct_29 : decode prog_14_method_56_code 29 = .ok (.getfield 44, 3) := by decide +kernel
theorem d_X12_readsAct_32 : decode prog_14_method_56_code 32 = .ok (.iload_n 1, 1) := by decide +kernel
theorem d_X12_readsAct_33 : decode prog_14_method_56_code 33 = .ok (.iaload, 1) := by decide +kernel
theorem d_X12_readsAct_34 : decode prog_14_method_56_code 34 = .ok (.ifCond .ge 5, 3) := by decide +kernel
theorem d_X12_readsAct_37 : decode prog_14_method_56_code 37 = .ok (.iconst 0, 1) := by decide +kernel
theorem d_X12_readsAct_38 : decode prog_14_method_56_code 38 = .ok (.ireturn, 1) := by decide +kernel
theorem d_X12_readsAct_39 : decode prog_14_method_56_code 39 = .ok (.aload_n 0, 1) := by decide +kernel
theorem d_X12_readsAct_40 : decode prog_14_method_56_code 40 = .ok (.getfield 47, 3) := by decide +kernel
theorem d_X12_readsAct_43 : decode prog_14_method_56_code 43 = .ok (.iload_n 1, 1) := by decide +kernel
theorem d_X12_readsAct_44 : decode prog_14_method_56_code 44 = .ok (.aload_n 0, 1) := by decide +kernel
theorem d_X12_readsAct_45 : decode prog_14_method_56_code 45 = .ok (.iconst 0, 1) := by decide +kernel
theorem d_X12_readsAct_46 : decode prog_14_method_56_code 46 = .ok (.aload_n 0, 1) := by decide +kernel
theorem d_X12_readsAct_47 : decode prog_14_method_56_code 47 = .ok (.getfield 44, 3) := by decide +kernel
theorem d_X12_readsAct_50 : decode prog_14_method_56_code 50 = .ok (.iload_n 1, 1) := by decide +kernel
theorem d_X12_readsAct_51 : decode prog_14_method_56_code 51 = .ok (.iaload, 1) := by decide +kernel
theorem d_X12_readsAct_52 : decode prog_14_method_56_code 52 = .ok (.iconst 2, 1) := by decide +kernel
theorem d_X12_readsAct_53 : decode prog_14_method_56_code 53 = .ok (.if_icmp .ne 7, 3) := by decide +kernel
theorem d_X12_readsAct_56 : decode prog_14_method_56_code 56 = .ok (.iconst 3, 1) := by decide +kernel
theorem d_X12_readsAct_57 : decode prog_14_method_56_code 57 = .ok (.goto 5, 3) := by decide +kernel
theorem d_X12_readsAct_60 : decode prog_14_method_56_code 60 = .ok (.bipush 9, 2) := by decide +kernel
theorem d_X12_readsAct_62 : decode prog_14_method_56_code 62 = .ok (.invokevirtual 301, 3) := by decide +kernel
theorem d_X12_readsAct_65 : decode prog_14_method_56_code 65 = .ok (.iastore, 1) := by decide +kernel
theorem d_X12_readsAct_66 : decode prog_14_method_56_code 66 = .ok (.aload_n 0, 1) := by decide +kernel
theorem d_X12_readsAct_67 : decode prog_14_method_56_code 67 = .ok (.getfield 47, 3) := by decide +kernel
theorem d_X12_readsAct_70 : decode prog_14_method_56_code 70 = .ok (.iload_n 1, 1) := by decide +kernel
theorem d_X12_readsAct_71 : decode prog_14_method_56_code 71 = .ok (.iaload, 1) := by decide +kernel
theorem d_X12_readsAct_72 : decode prog_14_method_56_code 72 = .ok (.ifCond .lt 13, 3) := by decide +kernel
theorem d_X12_readsAct_75 : decode prog_14_method_56_code 75 = .ok (.aload_n 0, 1) := by decide +kernel
theorem d_X12_readsAct_76 : decode prog_14_method_56_code 76 = .ok (.getfield 44, 3) := by decide +kernel
theorem d_X12_readsAct_79 : decode prog_14_method_56_code 79 = .ok (.iload_n 1, 1) := by decide +kernel
theorem d_X12_readsAct_80 : decode prog_14_method_56_code 80 = .ok (.iaload, 1) := by decide +kernel
theorem d_X12_readsAct_81 : decode prog_14_method_56_code 81 = .ok (.iconst 2, 1) := by decide +kernel
theorem d_X12_readsAct_82 : decode prog_14_method_56_code 82 = .ok (.if_icmp .ge 18, 3) := by decide +kernel
theorem d_X12_readsAct_85 : decode prog_14_method_56_code 85 = .ok (.aload_n 0, 1) := by decide +kernel
theorem d_X12_readsAct_86 : decode prog_14_method_56_code 86 = .ok (.getfield 47, 3) := by decide +kernel
theorem d_X12_readsAct_89 : decode prog_14_method_56_code 89 = .ok (.iload_n 1, 1) := by decide +kernel
theorem d_X12_readsAct_90 : decode prog_14_method_56_code 90 = .ok (.iaload, 1) := by decide +kernel
theorem d_X12_readsAct_91 : decode prog_14_method_56_code 91 = .ok (.ifCond .lt 7, 3) := by decide +kernel
theorem d_X12_readsAct_94 : decode prog_14_method_56_code 94 = .ok (.iconst 1, 1) := by decide +kernel
theorem d_X12_readsAct_95 : decode prog_14_method_56_code 95 = .ok (.goto 4, 3) := by decide +kernel
theorem d_X12_readsAct_98 : decode prog_14_method_56_code 98 = .ok (.iconst 0, 1) := by decide +kernel
theorem d_X12_readsAct_99 : decode prog_14_method_56_code 99 = .ok (.ireturn, 1) := by decide +kernel
theorem d_X12_readsAct_100 : decode prog_14_method_56_code 100 = .ok (.aload_n 0, 1) := by decide +kernel
theorem d_X12_readsAct_101 : decode prog_14_method_56_code 101 = .ok (.getfield 50, 3) := by decide +kernel
theorem d_X12_readsAct_104 : decode prog_14_method_56_code 104 = .ok (.iload_n 1, 1) := by decide +kernel
theorem d_X12_readsAct_105 : decode prog_14_method_56_code 105 = .ok (.aload_n 0, 1) := by decide +kernel
theorem d_X12_readsAct_106 : decode prog_14_method_56_code 106 = .ok (.getfield 44, 3) := by decide +kernel
theorem d_X12_readsAct_109 : decode prog_14_method_56_code 109 = .ok (.iload_n 1, 1) := by decide +kernel
theorem d_X12_readsAct_110 : decode prog_14_method_56_code 110 = .ok (.iaload, 1) := by decide +kernel
theorem d_X12_readsAct_111 : decode prog_14_method_56_code 111 = .ok (.iconst 4, 1) := by decide +kernel
theorem d_X12_readsAct_112 : decode prog_14_method_56_code 112 = .ok (.if_icmp .ne 10, 3) := by decide +kernel
theorem d_X12_readsAct_115 : decode prog_14_method_56_code 115 = .ok (.aload_n 0, 1) := by decide +kernel
theorem d_X12_readsAct_116 : decode prog_14_method_56_code 116 = .ok (.invokevirtual 170, 3) := by decide +kernel
theorem d_X12_readsAct_119 : decode prog_14_method_56_code 119 = .ok (.goto 8, 3) := by decide +kernel
theorem d_X12_readsAct_122 : decode prog_14_method_56_code 122 = .ok (.aload_n 0, 1) := by decide +kernel
theorem d_X12_readsAct_123 : decode prog_14_method_56_code 123 = .ok (.iconst 1, 1) := by decide +kernel
theorem d_X12_readsAct_124 : decode prog_14_method_56_code 124 = .ok (.invokevirtual 157, 3) := by decide +kernel
theorem d_X12_readsAct_127 : decode prog_14_method_56_code 127 = .ok (.iastore, 1) := by decide +kernel
theorem d_X12_readsAct_128 : decode prog_14_method_56_code 128 = .ok (.aload_n 0, 1) := by decide +kernel
theorem d_X12_readsAct_129 : decode prog_14_method_56_code 129 = .ok (.getfield 50, 3) := by decide +kernel
theorem d_X12_readsAct_132 : decode prog_14_method_56_code 132 = .ok (.iload_n 1, 1) := by decide +kernel
theorem d_X12_readsAct_133 : decode prog_14_method_56_code 133 = .ok (.iaload, 1) := by decide +kernel
theorem d_X12_readsAct_134 : decode prog_14_method_56_code 134 = .ok (.ifCond .lt 7, 3) := by decide +kernel
theorem d_X12_readsAct_137 : decode prog_14_method_56_code 137 = .ok (.iconst 1, 1) := by decide +kernel
theorem d_X12_readsAct_138 : decode prog_14_method_56_code 138 = .ok (.goto 4, 3) := by decide +kernel
theorem d_X12_readsAct_141 : decode prog_14_method_56_code 141 = .ok (.iconst 0, 1) := by decide +kernel
theorem d_X12_readsAct_142 : decode prog_14_method_56_code 142 = .ok (.ireturn, 1) := by decide +kernel
def f_X12_readsAct_j85 (τ : St) (x1 : Int32) : Option (Int32 × St) := gd (inb x1 60) (some ((if (cA τ 324 x1.toNatClampNeg) < 0 then (0 : Int32) else (1 : Int32)), τ))
def f_X12_readsAct_j127 (τ : St) (x1 : Int32) (s1 : Int32) (s2 : Int32) : Option (Int32 × St) := gd (inb s1 60) (gd (inb x1 60) (some ((if (cA (sA τ 325 s1.toNatClampNeg s2) 325 x1.toNatClampNeg) < 0 then (0 : Int32) else (1 : Int32)), (sA τ 325 s1.toNatClampNeg s2))))
def f_X12_readsAct_j62 (τ : St) (x1 : Int32) (s1 : Int32) (s3 : Int32) (s4 : Int32) : Option (Int32 × St) := (f_X12_digitIn τ s3 s4).bind (fun q6 => gd (inb s1 60) (gd (inb x1 60) ((if (cA (sA q6.2 324 s1.toNatClampNeg q6.1) 324 x1.toNatClampNeg) < 0 then f_X12_readsAct_j85 (sA q6.2 324 s1.toNatClampNeg q6.1) x1 else gd (inb x1 60) ((if (2 : Int32) ≤ (cA (sA q6.2 324 s1.toNatClampNeg q6.1) 323 x1.toNatClampNeg) then gd (inb x1 60) ((if (cA (sA q6.2 324 s1.toNatClampNeg q6.1) 323 x1.toNatClampNeg) = (4 : Int32) then (f_X12_twoDigits (sA q6.2 324 s1.toNatClampNeg q6.1)).bind (fun q17 => f_X12_readsAct_j127 q17.2 x1 x1 q17.1) else (f_X12_number (sA q6.2 324 s1.toNatClampNeg q6.1) (1 : Int32)).bind (fun q13 => f_X12_readsAct_j127 q13.2 x1 x1 q13.1))) else f_X12_readsAct_j85 (sA q6.2 324 s1.toNatClampNeg q6.1) x1))))))
def f_X12_readsAct (σ : St) : Option (Int32 × St) := (f_X12_takesOf σ 8).bind (fun q1 => gd (inb (cF σ 300 26) 60) (gd (inb (cF σ 300 26) 60) ((if 0 ≤ (cA (sF (sA q1.2 323 (cF σ 300 26).toNatClampNeg q1.1) 300 26 ((cF (sA q1.2 323 (cF σ 300 26).toNatClampNeg q1.1) 300 26) + (1 : Int32))) 323 (cF σ 300 26).toNatClampNeg) then gd (inb (cF σ 300 26) 60) (f_X12_readsAct_j62 (sF (sA q1.2 323 (cF σ 300 26).toNatClampNeg q1.1) 300 26 ((cF (sA q1.2 323 (cF σ 300 26).toNatClampNeg q1.1) 300 26) + (1 : Int32))) (cF σ 300 26) (cF σ 300 26) (0 : Int32) (if (cA (sF (sA q1.2 323 (cF σ 300 26).toNatClampNeg q1.1) 300 26 ((cF (sA q1.2 323 (cF σ 300 26).toNatClampNeg q1.1) 300 26) + (1 : Int32))) 323 (cF σ 300 26).toNatClampNeg) = (2 : Int32) then (3 : Int32) else (9 : Int32))) else some ((0 : Int32), (sF (sA q1.2 323 (cF σ 300 26).toNatClampNeg q1.1) 300 26 ((cF (sA q1.2 323 (cF σ 300 26).toNatClampNeg q1.1) 300 26) + (1 : Int32))))))))
theorem c_X12_readsAct {l : Launch} {G : gT} {χ σ : St} (hf : FW G) {q : Int32 × St} (h : f_X12_readsAct σ = some q) : Ct l G yX12_readsAct prog_14_method_56_code 2 (some .boolean) 7 242 [.ref (ga G 300)] χ σ (some (.int q.1)) χ q.2 := by
  refine Ct.of (by decide) (Nat.le_of_ble_eq_true rfl) ?_
  intro p e s m args below meth c Q X hr hlk hQ
  have hx := X.1
  have hb := X.2.1
  have j85 : ∀ (τ : St) (x1 : Int32), f_X12_readsAct_j85 τ x1 = some q → Wat p l e (rmk 7 242) s m args below meth c Q G 2 85 [] [(0, .ref (ga G 300)), (1, .int x1)] χ τ := by
    intro τ x1 h H locs ls hw hl
    unfold f_X12_readsAct_j85 at h
    refine lv_aload_n hx hb d_X12_readsAct_85 rfl (lv_at hl 0 rfl) ?_
    refine r_getr (j := 24) X hw ct8 (o_300 hf) rfl (Nat.le_of_ble_eq_true rfl) (q := 324) rfl wd_980 d_X12_readsAct_86 ?_
    refine lv_iload_n hx hb d_X12_readsAct_89 rfl (lv_at hl 1 rfl) ?_
    obtain ⟨hi10, h⟩ := gd_some h
    refine m_iald X hw (o_324 hf) (Nat.le_of_ble_eq_true rfl) hi10 d_X12_readsAct_90 ?_
    refine lv_if_lt (tgt := 98) hx hb d_X12_readsAct_91 (by decide) (fun hc => ?_) (fun hc => ?_)
    · simp only [if_pos hc] at h
      refine lv_iconst (v := (0 : Int32)) hx hb d_X12_readsAct_98 (by decide) ?_
      obtain rfl := Option.some.inj h
      subst hQ
      exact r_zret X hr nbz0 hlk hw d_X12_readsAct_99
    · simp only [if_neg hc] at h
      refine lv_iconst (v := (1 : Int32)) hx hb d_X12_readsAct_94 (by decide) ?_
      refine lv_goto (tgt := 99) hx hb d_X12_readsAct_95 (by decide) ?_
      obtain rfl := Option.some.inj h
      subst hQ
      exact r_zret X hr nbz1 hlk hw d_X12_readsAct_99
  have j127 : ∀ (τ : St) (x1 : Int32) (s1 : Int32) (s2 : Int32), f_X12_readsAct_j127 τ x1 s1 s2 = some q → Wat p l e (rmk 7 242) s m args below meth c Q G 2 127 [.int s2, .int s1, .ref (ga G 325)] [(0, .ref (ga G 300)), (1, .int x1)] χ τ := by
    intro τ x1 s1 s2 h H locs ls hw hl
    unfold f_X12_readsAct_j127 at h
    obtain ⟨hi15, h⟩ := gd_some h
    refine m_iast X hw (o_325 hf) (Nat.le_of_ble_eq_true rfl) hi15 d_X12_readsAct_127 (fun H locs hw => ?_)
    refine lv_aload_n hx hb d_X12_readsAct_128 rfl (lv_at hl 0 rfl) ?_
    refine r_getr (j := 25) X hw ct8 (o_300 hf) rfl (Nat.le_of_ble_eq_true rfl) (q := 325) rfl wd_981 d_X12_readsAct_129 ?_
    refine lv_iload_n hx hb d_X12_readsAct_132 rfl (lv_at hl 1 rfl) ?_
    obtain ⟨hi16, h⟩ := gd_some h
    refine m_iald X hw (o_325 hf) (Nat.le_of_ble_eq_true rfl) hi16 d_X12_readsAct_133 ?_
    refine lv_if_lt (tgt := 141) hx hb d_X12_readsAct_134 (by decide) (fun hc => ?_) (fun hc => ?_)
    · simp only [if_pos hc] at h
      refine lv_iconst (v := (0 : Int32)) hx hb d_X12_readsAct_141 (by decide) ?_
      obtain rfl := Option.some.inj h
      subst hQ
      exact r_zret X hr nbz0 hlk hw d_X12_readsAct_142
    · simp only [if_neg hc] at h
      refine lv_iconst (v := (1 : Int32)) hx hb d_X12_readsAct_137 (by decide) ?_
      refine lv_goto (tgt := 142) hx hb d_X12_readsAct_138 (by decide) ?_
      obtain rfl := Option.some.inj h
      subst hQ
      exact r_zret X hr nbz1 hlk hw d_X12_readsAct_142
  have j62 : ∀ (τ : St) (x1 : Int32) (s1 : Int32) (s3 : Int32) (s4 : Int32), f_X12_readsAct_j62 τ x1 s1 s3 s4 = some q → Wat p l e (rmk 7 242) s m args below meth c Q G 2 62 [.int s4, .int s3, .ref (ga G 300), .int s1, .ref (ga G 324)] [(0, .ref (ga G 300)), (1, .int x1)] χ τ := by
    intro τ x1 s1 s3 s4 h H locs ls hw hl
    unfold f_X12_readsAct_j62 at h
    obtain ⟨q6, e7, h⟩ := bd_some h
    refine r_callV (As := [.int s3, .int s4]) (rest := [.int s1, .ref (ga G 324)]) (st' := [.int q6.1, .int s1, .ref (ga G 324)]) X hw hl mwX12_digitIn wd_1341 wp_47 wd_1339 (c_X12_digitIn hf e7) (r_recv X hw ct8 (o_300 hf)) rfl ⟨Nat.le_of_ble_eq_true rfl, Nat.le_of_ble_eq_true rfl⟩ ⟨Nat.le_refl _, Nat.le_refl _⟩ rfl rfl (Nat.le_of_ble_eq_true rfl) d_X12_readsAct_62 (fun H locs hw => ?_)
    obtain ⟨hi8, h⟩ := gd_some h
    refine m_iast X hw (o_324 hf) (Nat.le_of_ble_eq_true rfl) hi8 d_X12_readsAct_65 (fun H locs hw => ?_)
    refine lv_aload_n hx hb d_X12_readsAct_66 rfl (lv_at hl 0 rfl) ?_
    refine r_getr (j := 24) X hw ct8 (o_300 hf) rfl (Nat.le_of_ble_eq_true rfl) (q := 324) rfl wd_980 d_X12_readsAct_67 ?_
    refine lv_iload_n hx hb d_X12_readsAct_70 rfl (lv_at hl 1 rfl) ?_
    obtain ⟨hi9, h⟩ := gd_some h
    refine m_iald X hw (o_324 hf) (Nat.le_of_ble_eq_true rfl) hi9 d_X12_readsAct_71 ?_
    refine lv_if_lt (tgt := 85) hx hb d_X12_readsAct_72 (by decide) (fun hc => ?_) (fun hc => ?_)
    · have h := ite_t h hc
      exact j85 (sA q6.2 324 s1.toNatClampNeg q6.1) x1 h _ _ _ hw (lv_sub hl [0, 1] rfl)
    · have h := ite_f h hc
      refine lv_aload_n hx hb d_X12_readsAct_75 rfl (lv_at hl 0 rfl) ?_
      refine r_getr (j := 23) X hw ct8 (o_300 hf) rfl (Nat.le_of_ble_eq_true rfl) (q := 323) rfl wd_979 d_X12_readsAct_76 ?_
      refine lv_iload_n hx hb d_X12_readsAct_79 rfl (lv_at hl 1 rfl) ?_
      obtain ⟨hi11, h⟩ := gd_some h
      refine m_iald X hw (o_323 hf) (Nat.le_of_ble_eq_true rfl) hi11 d_X12_readsAct_80 ?_
      refine lv_iconst (v := (2 : Int32)) hx hb d_X12_readsAct_81 (by decide) ?_
      refine lv_icmp_ge (tgt := 100) hx hb d_X12_readsAct_82 (by decide) (fun hc => ?_) (fun hc => ?_)
      · have h := ite_t h hc
        refine lv_aload_n hx hb d_X12_readsAct_100 rfl (lv_at hl 0 rfl) ?_
        refine r_getr (j := 25) X hw ct8 (o_300 hf) rfl (Nat.le_of_ble_eq_true rfl) (q := 325) rfl wd_981 d_X12_readsAct_101 ?_
        refine lv_iload_n hx hb d_X12_readsAct_104 rfl (lv_at hl 1 rfl) ?_
        refine lv_aload_n hx hb d_X12_readsAct_105 rfl (lv_at hl 0 rfl) ?_
        refine r_getr (j := 23) X hw ct8 (o_300 hf) rfl (Nat.le_of_ble_eq_true rfl) (q := 323) rfl wd_979 d_X12_readsAct_106 ?_
        refine lv_iload_n hx hb d_X12_readsAct_109 rfl (lv_at hl 1 rfl) ?_
        obtain ⟨hi12, h⟩ := gd_some h
        refine m_iald X hw (o_323 hf) (Nat.le_of_ble_eq_true rfl) hi12 d_X12_readsAct_110 ?_
        refine lv_iconst (v := (4 : Int32)) hx hb d_X12_readsAct_111 (by decide) ?_
        refine lv_icmp_ne (tgt := 122) hx hb d_X12_readsAct_112 (by decide) (fun hc => ?_) (fun hc => ?_)
        · have h := ite_f h hc
          refine lv_aload_n hx hb d_X12_readsAct_122 rfl (lv_at hl 0 rfl) ?_
          refine lv_iconst (v := (1 : Int32)) hx hb d_X12_readsAct_123 (by decide) ?_
          obtain ⟨q13, e14, h⟩ := bd_some h
          refine r_callV (As := [.int (1 : Int32)]) (rest := [.int x1, .ref (ga G 325)]) (st' := [.int q13.1, .int x1, .ref (ga G 325)]) X hw hl mwX12_number wd_1163 wp_19 wd_1161 (c_X12_number hf e14) (r_recv X hw ct8 (o_300 hf)) rfl ⟨Nat.le_of_ble_eq_true rfl, Nat.le_of_ble_eq_true rfl⟩ ⟨Nat.le_refl _, Nat.le_refl _⟩ rfl rfl (Nat.le_of_ble_eq_true rfl) d_X12_readsAct_124 (fun H locs hw => ?_)
          exact j127 q13.2 x1 x1 q13.1 h _ _ _ hw (lv_sub hl [0, 1] rfl)
        · have h := ite_t h hc
          refine lv_aload_n hx hb d_X12_readsAct_115 rfl (lv_at hl 0 rfl) ?_
          obtain ⟨q17, e18, h⟩ := bd_some h
          refine r_callV (As := []) (rest := [.int x1, .ref (ga G 325)]) (st' := [.int q17.1, .int x1, .ref (ga G 325)]) X hw hl mwX12_twoDigits wd_1173 wp_21 wd_1171 (c_X12_twoDigits hf e18) (r_recv X hw ct8 (o_300 hf)) rfl ⟨Nat.le_of_ble_eq_true rfl, Nat.le_of_ble_eq_true rfl⟩ ⟨Nat.le_refl _, Nat.le_refl _⟩ rfl rfl (Nat.le_of_ble_eq_true rfl) d_X12_readsAct_116 (fun H locs hw => ?_)
          refine lv_goto (tgt := 127) hx hb d_X12_readsAct_119 (by decide) ?_
          exact j127 q17.2 x1 x1 q17.1 h _ _ _ hw (lv_sub hl [0, 1] rfl)
      · have h := ite_f h hc
        exact j85 (sA q6.2 324 s1.toNatClampNeg q6.1) x1 h _ _ _ hw (lv_sub hl [0, 1] rfl)
  intro H locs ls hw hl
  have hl : lv_has ls 2 [(0, .ref (ga G 300))] := hl
  unfold f_X12_readsAct at h
  refine lv_aload_n hx hb d_X12_readsAct_0 rfl (lv_at hl 0 rfl) ?_
  refine m_geti (j := 26) X hw ct8 (o_300 hf) (Nat.le_of_ble_eq_true rfl) rfl (Nat.le_of_ble_eq_true rfl) wd_982 d_X12_readsAct_1 ?_
  refine lv_istore_n (lv' := [(1, .int (cF σ 300 26)), (0, .ref (ga G 300))]) hx hb d_X12_readsAct_4 rfl hl (Nat.le_of_ble_eq_true rfl) rfl (fun ls hl => ?_)
  refine lv_aload_n hx hb d_X12_readsAct_5 rfl (lv_at hl 1 rfl) ?_
  refine r_getr (j := 23) X hw ct8 (o_300 hf) rfl (Nat.le_of_ble_eq_true rfl) (q := 323) rfl wd_979 d_X12_readsAct_6 ?_
  refine lv_iload_n hx hb d_X12_readsAct_9 rfl (lv_at hl 0 rfl) ?_
  refine lv_aload_n hx hb d_X12_readsAct_10 rfl (lv_at hl 1 rfl) ?_
  refine r_ldcS X X.2.2.2.2.2.2.2.2.2.2.2.2.2.2.2.2.2.2.2.2.2.2.2 d_X12_readsAct_11 ?_
  obtain ⟨q1, e2, h⟩ := bd_some h
  refine r_callV (As := [.ref (gK G 8)]) (rest := [.int (cF σ 300 26), .ref (ga G 323)]) (st' := [.int q1.1, .int (cF σ 300 26), .ref (ga G 323)]) X hw hl mwX12_takesOf wd_1111 wp_18 wd_1109 (c_X12_takesOf hf (Nat.le_of_ble_eq_true rfl) e2) (r_recv X hw ct8 (o_300 hf)) rfl ⟨Nat.le_of_ble_eq_true rfl, Nat.le_of_ble_eq_true rfl⟩ ⟨Nat.le_refl _, Nat.le_refl _⟩ rfl rfl (Nat.le_of_ble_eq_true rfl) d_X12_readsAct_14 (fun H locs hw => ?_)
  obtain ⟨hi3, h⟩ := gd_some h
  refine m_iast X hw (o_323 hf) (Nat.le_of_ble_eq_true rfl) hi3 d_X12_readsAct_17 (fun H locs hw => ?_)
  refine lv_aload_n hx hb d_X12_readsAct_18 rfl (lv_at hl 1 rfl) ?_
  refine lv_dup hx hb d_X12_readsAct_19 rfl ?_
  refine m_geti (j := 26) X hw ct8 (o_300 hf) (Nat.le_of_ble_eq_true rfl) rfl (Nat.le_of_ble_eq_true rfl) wd_982 d_X12_readsAct_20 ?_
  refine lv_iconst (v := (1 : Int32)) hx hb d_X12_readsAct_23 (by decide) ?_
  refine lv_iadd hx hb d_X12_readsAct_24 ?_
  refine m_puti (j := 26) X hw ct8 (o_300 hf) (Nat.le_of_ble_eq_true rfl) rfl (Nat.le_of_ble_eq_true rfl) rfl rfl rfl wd_982 d_X12_readsAct_25 (fun H locs hw => ?_)
  refine lv_aload_n hx hb d_X12_readsAct_28 rfl (lv_at hl 1 rfl) ?_
  refine r_getr (j := 23) X hw ct8 (o_300 hf) rfl (Nat.le_of_ble_eq_true rfl) (q := 323) rfl wd_979 d_X12_readsAct_29 ?_
  refine lv_iload_n hx hb d_X12_readsAct_32 rfl (lv_at hl 0 rfl) ?_
  obtain ⟨hi4, h⟩ := gd_some h
  refine m_iald X hw (o_323 hf) (Nat.le_of_ble_eq_true rfl) hi4 d_X12_readsAct_33 ?_
  refine lv_if_ge (tgt := 39) hx hb d_X12_readsAct_34 (by decide) (fun hc => ?_) (fun hc => ?_)
  · have h := ite_t h hc
    refine lv_aload_n hx hb d_X12_readsAct_39 rfl (lv_at hl 1 rfl) ?_
    refine r_getr (j := 24) X hw ct8 (o_300 hf) rfl (Nat.le_of_ble_eq_true rfl) (q := 324) rfl wd_980 d_X12_readsAct_40 ?_
    refine lv_iload_n hx hb d_X12_readsAct_43 rfl (lv_at hl 0 rfl) ?_
    refine lv_aload_n hx hb d_X12_readsAct_44 rfl (lv_at hl 1 rfl) ?_
    refine lv_iconst (v := (0 : Int32)) hx hb d_X12_readsAct_45 (by decide) ?_
    refine lv_aload_n hx hb d_X12_readsAct_46 rfl (lv_at hl 1 rfl) ?_
    refine r_getr (j := 23) X hw ct8 (o_300 hf) rfl (Nat.le_of_ble_eq_true rfl) (q := 323) rfl wd_979 d_X12_readsAct_47 ?_
    refine lv_iload_n hx hb d_X12_readsAct_50 rfl (lv_at hl 0 rfl) ?_
    obtain ⟨hi5, h⟩ := gd_some h
    refine m_iald X hw (o_323 hf) (Nat.le_of_ble_eq_true rfl) hi5 d_X12_readsAct_51 ?_
    refine lv_iconst (v := (2 : Int32)) hx hb d_X12_readsAct_52 (by decide) ?_
    refine lv_icmp_ne (tgt := 60) hx hb d_X12_readsAct_53 (by decide) (fun hc => ?_) (fun hc => ?_)
    · simp only [if_neg hc] at h
      refine lv_bipush (v := (9 : Int32)) hx hb d_X12_readsAct_60 (by decide) ?_
      exact j62 (sF (sA q1.2 323 (cF σ 300 26).toNatClampNeg q1.1) 300 26 ((cF (sA q1.2 323 (cF σ 300 26).toNatClampNeg q1.1) 300 26) + (1 : Int32))) (cF σ 300 26) (cF σ 300 26) (0 : Int32) (9 : Int32) h _ _ _ hw (lv_sub hl [1, 0] rfl)
    · simp only [if_pos hc] at h
      refine lv_iconst (v := (3 : Int32)) hx hb d_X12_readsAct_56 (by decide) ?_
      refine lv_goto (tgt := 62) hx hb d_X12_readsAct_57 (by decide) ?_
      exact j62 (sF (sA q1.2 323 (cF σ 300 26).toNatClampNeg q1.1) 300 26 ((cF (sA q1.2 323 (cF σ 300 26).toNatClampNeg q1.1) 300 26) + (1 : Int32))) (cF σ 300 26) (cF σ 300 26) (0 : Int32) (3 : Int32) h _ _ _ hw (lv_sub hl [1, 0] rfl)
  · have h := ite_f h hc
    refine lv_iconst (v := (0 : Int32)) hx hb d_X12_readsAct_37 (by decide) ?_
    obtain rfl := Option.some.inj h
    subst hQ
    exact r_zret X hr nbz0 hlk hw d_X12_readsAct_38
abbrev yX12_season : MethodName := ⟨"OysterBedsModel", "season", "()I"⟩
theorem mwX12_season : MW yX12_season prog_14_method_58_code 5 (some .int) 0 := ⟨wd_1333, wd_10, by decide +kernel⟩
theorem d_X12_season_0 : decode prog_14_method_58_code 0 = .ok (.aload_n 0, 1) := by decide +kernel
theorem d_X12_season_1 : decode prog_14_method_58_code 1 = .ok (.iconst 0, 1) := by decide +kernel
theorem d_X12_season_2 : decode prog_14_method_58_code 2 = .ok (.putfield 87, 3) := by decide +kernel
theorem d_X12_season_5 : decode prog_14_method_58_code 5 = .ok (.aload_n 0, 1) := by decide +kernel
theorem d_X12_season_6 : decode prog_14_method_58_code 6 = .ok (.bipush 60, 2) := by decide +kernel
theorem d_X12_season_8 : decode prog_14_method_58_code 8 = .ok (.invokevirtual 173, 3) := by decide +kernel
theorem d_X12_season_11 : decode prog_14_method_58_code 11 = .ok (.istore_n 1, 1) := by decide +kernel
theorem d_X12_season_12 : decode prog_14_method_58_code 12 = .ok (.aload_n 0, 1) := by decide +kernel
theorem d_X12_season_13 : decode prog_14_method_58_code 13 = .ok (.iconst 0, 1) := by decide +kernel
theorem d_X12_season_14 : decode prog_14_method_58_code 14 = .ok (.putfield 296, 3) := by decide +kernel
theorem d_X12_season_17 : decode prog_14_method_58_code 17 = .ok (.iconst 1, 1) := by decide +kernel
theorem d_X12_season_18 : decode prog_14_method_58_code 18 = .ok (.istore_n 2, 1) := by decide +kernel
theorem d_X12_season_19 : decode prog_14_method_58_code 19 = .ok (.iload_n 2, 1) := by decide +kernel
theorem d_X12_season_20 : decode prog_14_method_58_code 20 = .ok (.ifCond .eq 22, 3) := by decide +kernel
theorem d_X12_season_23 : decode prog_14_method_58_code 23 = .ok (.aload_n 0, 1) := by decide +kernel
theorem d_X12_season_24 : decode prog_14_method_58_code 24 = .ok (.getfield 120, 3) := by decide +kernel
theorem d_X12_season_27 : decode prog_14_method_58_code 27 = .ok (.aload_n 0, 1) := by decide +kernel
theorem d_X12_season_28 : decode prog_14_method_58_code 28 = .ok (.getfield 132, 3) := by decide +kernel
theorem d_X12_season_31 : decode prog_14_method_58_code 31 = .ok (.if_icmp .ge 11, 3) := by decide +kernel
theorem d_X12_season_34 : decode prog_14_method_58_code 34 = .ok (.aload_n 0, 1) := by decide +kernel
theorem d_X12_season_35 : decode prog_14_method_58_code 35 = .ok (.invokevirtual 304, 3) := by decide +kernel
theorem d_X12_season_38 : decode prog_14_method_58_code 38 = .ok (.istore_n 2, 1) := by decide +kernel
theorem d_X12_season_39 : decode prog_14_method_58_code 39 = .ok (.goto (-20), 3) := by decide +kernel
theorem d_X12_season_42 : decode prog_14_method_58_code 42 = .ok (.aload_n 0, 1) := by decide +kernel
theorem d_X12_season_43 : decode prog_14_method_58_code 43 = .ok (.iload_n 1, 1) := by decide +kernel
theorem d_X12_season_44 : decode prog_14_method_58_code 44 = .ok (.bipush 60, 2) := by decide +kernel
theorem d_X12_season_46 : decode prog_14_method_58_code 46 = .ok (.iload_n 2, 1) := by decide +kernel
theorem d_X12_season_47 : decode prog_14_method_58_code 47 = .ok (.invokevirtual 183, 3) := by decide +kernel
theorem d_X12_season_50 : decode prog_14_method_58_code 50 = .ok (.istore_n 3, 1) := by decide +kernel
theorem d_X12_season_51 : decode prog_14_method_58_code 51 = .ok (.iload_n 3, 1) := by decide +kernel
theorem d_X12_season_52 : decode prog_14_method_58_code 52 = .ok (.ifCond .ge 5, 3) := by decide +kernel
theorem d_X12_season_55 : decode prog_14_method_58_code 55 = .ok (.iload_n 3, 1) := by decide +kernel
theorem d_X12_season_56 : decode prog_14_method_58_code 56 = .ok (.ireturn, 1) := by decide +kernel
theorem d_X12_season_57 : decode prog_14_method_58_code 57 = .ok (.aload_n 0, 1) := by decide +kernel
theorem d_X12_season_58 : decode prog_14_method_58_code 58 = .ok (.invokevirtual 273, 3) := by decide +kernel
theorem d_X12_season_61 : decode prog_14_method_58_code 61 = .ok (.iconst 0, 1) := by decide +kernel
theorem d_X12_season_62 : decode prog_14_method_58_code 62 = .ok (.istore 4, 2) := by decide +kernel
theorem d_X12_season_64 : decode prog_14_method_58_code 64 = .ok (.iload 4, 2) := by decide +kernel
theorem d_X12_season_66 : decode prog_14_method_58_code 66 = .ok (.aload_n 0, 1) := by decide +kernel
theorem d_X12_season_67 : decode prog_14_method_58_code 67 = .ok (.getfield 296, 3) := by decide +kernel
theorem d_X12_season_70 : decode prog_14_method_58_code 70 = .ok (.if_icmp .ge 18, 3) := by decide +kernel
theorem d_X12_season_73 : decode prog_14_method_58_code 73 = .ok (.aload_n 0, 1) := by decide +kernel
theorem d_X12_season_74 : decode prog_14_method_58_code 74 = .ok (.iload 4, 2) := by decide +kernel
theorem d_X12_season_76 : decode prog_14_method_58_code 76 = .ok (.invokevirtual 307, 3) := by decide +kernel
theorem d_X12_season_79 : decode prog_14_method_58_code 79 = .ok (.ifCond .eq 9, 3) := by decide +kernel
theorem d_X12_season_82 : decode prog_14_method_58_code 82 = .ok (.iinc 4 1, 3) := by decide +kernel
theorem d_X12_season_85 : decode prog_14_method_58_code 85 = .ok (.goto (-21), 3) := by decide +kernel
theorem d_X12_season_88 : decode prog_14_method_58_code 88 = .ok (.aload_n 0, 1) := by decide +kernel
theorem d_X12_season_89 : decode prog_14_method_58_code 89 = .ok (.iconst 0, 1) := by decide +kernel
theorem d_X12_season_90 : decode prog_14_method_58_code 90 = .ok (.putfield 95, 3) := by decide +kernel
theorem d_X12_season_93 : decode prog_14_method_58_code 93 = .ok (.aload_n 0, 1) := by decide +kernel
theorem d_X12_season_94 : decode prog_14_method_58_code 94 = .ok (.iload 4, 2) := by decide +kernel
theorem d_X12_season_96 : decode prog_14_method_58_code 96 = .ok (.aload_n 0, 1) := by decide +kernel
theorem d_X12_season_97 : decode prog_14_method_58_code 97 = .ok (.getfield 296, 3) := by decide +kernel
theorem d_X12_season_100 : decode prog_14_method_58_code 100 = .ok (.if_icmp .ge 7, 3) := by decide +kernel
theorem d_X12_season_103 : decode prog_14_method_58_code 103 = .ok (.iconst 1, 1) := by decide +kernel
theorem d_X12_season_104 : decode prog_14_method_58_code 104 = .ok (.goto 4, 3) := by decide +kernel
theorem d_X12_season_107 : decode prog_14_method_58_code 107 = .ok (.iconst 0, 1) := by decide +kernel
theorem d_X12_season_108 : decode prog_14_method_58_code 108 = .ok (.invokestatic 135, 3) := by decide +kernel
theorem d_X12_season_111 : decode prog_14_method_58_code 111 = .ok (.i2l, 1) := by decide +kernel
theorem d_X12_season_112 : decode prog_14_method_58_code 112 = .ok (.invokevirtual 98, 3) := by decide +kernel
theorem d_X12_season_115 : decode prog_14_method_58_code 115 = .ok (.aload_n 0, 1) := by decide +kernel
theorem d_X12_season_116 : decode prog_14_method_58_code 116 = .ok (.aload_n 0, 1) := by decide +kernel
theorem d_X12_season_117 : decode prog_14_method_58_code 117 = .ok (.aload_n 0, 1) := by decide +kernel
theorem d_X12_season_118 : decode prog_14_method_58_code 118 = .ok (.getfield 17, 3) := by decide +kernel
theorem d_X12_season_121 : decode prog_14_method_58_code 121 = .ok (.invokevirtual 228, 3) := by decide +kernel
theorem d_X12_season_124 : decode prog_14_method_58_code 124 = .ok (.invokestatic 235, 3) := by decide +kernel
theorem d_X12_season_127 : decode prog_14_method_58_code 127 = .ok (.i2l, 1) := by decide +kernel
theorem d_X12_season_128 : decode prog_14_method_58_code 128 = .ok (.invokevirtual 98, 3) := by decide +kernel
theorem d_X12_season_131 : decode prog_14_method_58_code 131 = .ok (.iload 4, 2) := by decide +kernel
theorem d_X12_season_133 : decode prog_14_method_58_code 133 = .ok (.ifCond .le 12, 3) := by decide +kernel
theorem d_X12_season_136 : decode prog_14_method_58_code 136 = .ok (.aload_n 0, 1) := by decide +kernel
theorem d_X12_season_137 : decode prog_14_method_58_code 137 = .ok (.iload 4, 2) := by decide +kernel
theorem d_X12_season_139 : decode prog_14_method_58_code 139 = .ok (.invokevirtual 258, 3) := by decide +kernel
theorem d_X12_season_142 : decode prog_14_method_58_code 142 = .ok (.goto 4, 3) := by decide +kernel
theorem d_X12_season_145 : decode prog_14_method_58_code 145 = .ok (.iconst 0, 1) := by decide +kernel
theorem d_X12_season_146 : decode prog_14_method_58_code 146 = .ok (.ireturn, 1) := by decide +kernel
def f_X12_season_s19 (τ : St) (y1 : Int32) (x2 : Int32) : Option ((Int32 × St) ⊕ (Int32 × St)) := (if x2 = 0 then some (.inr (x2, τ)) else (if (cF τ 300 11) ≤ (cF τ 300 10) then some (.inr (x2, τ)) else (f_X12_readsAct τ).bind (fun q3 => some (.inl (q3.1, q3.2)))))
def f_X12_season_s64 (τ : St) (x4 : Int32) : Option ((Int32 × St) ⊕ (Int32 × St)) := (if (cF τ 300 26) ≤ x4 then some (.inr (x4, τ)) else (f_X12_does τ x4).bind (fun q12 => (if q12.1 = 0 then some (.inr (x4, q12.2)) else some (.inl ((x4 + (1 : Int32)), q12.2)))))
def f_X12_season_j108 (τ : St) (x4 : Int32) (s1 : Int32) : Option (Int32 × St) := (f_X12_flag s1).bind (fun q17 => (f_X12_enters τ q17.toInt64).bind (fun q19 => (f_X12_openOnes q19 306).bind (fun q21 => (f_J6_bitCount_0f7a4 q21).bind (fun q23 => (f_X12_enters q19 q23.toInt64).bind (fun q25 => (if x4 ≤ 0 then some ((0 : Int32), q25) else (f_X12_adds q25 x4).bind (fun q27 => some (q27.1, q27.2))))))))
def f_X12_season_j88 (τ : St) (x4 : Int32) : Option (Int32 × St) := f_X12_season_j108 (sF τ 300 1 (0 : Int32)) x4 (if (cF (sF τ 300 1 (0 : Int32)) 300 26) ≤ x4 then (0 : Int32) else (1 : Int32))
def f_X12_season_j42 (τ : St) (x1 : Int32) (x2 : Int32) : Option (Int32 × St) := (f_X12_faultOf τ x1 (60 : Int32) x2).bind (fun q8 => (if 0 ≤ q8 then (f_X12_putsBy τ).bind (fun q10 => (iter (fun z => f_X12_season_s64 z.2 z.1) FU ((0 : Int32), q10)).bind (fun z14 => f_X12_season_j88 z14.2 z14.1)) else some (q8, τ)))
def f_X12_season (σ : St) : Option (Int32 × St) := (f_X12_begins (sF σ 300 0 (0 : Int32)) (60 : Int32)).bind (fun q1 => (iter (fun z => f_X12_season_s19 z.2 q1.1 z.1) FU ((1 : Int32), (sF q1.2 300 26 (0 : Int32)))).bind (fun z5 => f_X12_season_j42 z5.2 q1.1 z5.1))
theorem c_X12_season {l : Launch} {G : gT} {χ σ : St} (hf : FW G) {q : Int32 × St} (h : f_X12_season σ = some q) : Ct l G yX12_season prog_14_method_58_code 5 (some .int) 8 263 [.ref (ga G 300)] χ σ (some (.int q.1)) χ q.2 := by
  refine Ct.of (by decide) (Nat.le_of_ble_eq_true rfl) ?_
  intro p e s m args below meth c Q X hr hlk hQ
  have hx := X.1
  have hb := X.2.1
  have b19 : ∀ (τ : St) (y1 : Int32) (x2 : Int32) (o : (Int32 × St) ⊕ (Int32 × St)), f_X12_season_s19 τ y1 x2 = some o → Sum.elim (fun z : Int32 × St => Wat p l e (rmk 8 263) s m args below meth c Q G 5 19 [] [(2, .int z.1), (0, .ref (ga G 300)), (1, .int y1)] χ z.2) (fun z : Int32 × St => Wat p l e (rmk 8 263) s m args below meth c Q G 5 42 [] [(0, .ref (ga G 300)), (1, .int y1), (2, .int z.1)] χ z.2) o → Wat p l e (rmk 8 263) s m args below meth c Q G 5 19 [] [(2, .int x2), (0, .ref (ga G 300)), (1, .int y1)] χ τ := by
    intro τ y1 x2 o h hk H locs ls hw hl
    unfold f_X12_season_s19 at h
    refine lv_iload_n hx hb d_X12_season_19 rfl (lv_at hl 0 rfl) ?_
    refine lv_if_eq (tgt := 42) hx hb d_X12_season_20 (by decide) (fun hc => ?_) (fun hc => ?_)
    · have h := ite_t h hc
      obtain rfl := Option.some.inj h
      dsimp only [Sum.elim_inr] at hk
      exact hk _ _ _ hw (lv_sub hl [1, 2, 0] rfl)
    · have h := ite_f h hc
      refine lv_aload_n hx hb d_X12_season_23 rfl (lv_at hl 1 rfl) ?_
      refine m_geti (j := 10) X hw ct8 (o_300 hf) (Nat.le_of_ble_eq_true rfl) rfl (Nat.le_of_ble_eq_true rfl) wd_966 d_X12_season_24 ?_
      refine lv_aload_n hx hb d_X12_season_27 rfl (lv_at hl 1 rfl) ?_
      refine m_geti (j := 11) X hw ct8 (o_300 hf) (Nat.le_of_ble_eq_true rfl) rfl (Nat.le_of_ble_eq_true rfl) wd_967 d_X12_season_28 ?_
      refine lv_icmp_ge (tgt := 42) hx hb d_X12_season_31 (by decide) (fun hc => ?_) (fun hc => ?_)
      · have h := ite_t h hc
        obtain rfl := Option.some.inj h
        dsimp only [Sum.elim_inr] at hk
        exact hk _ _ _ hw (lv_sub hl [1, 2, 0] rfl)
      · have h := ite_f h hc
        refine lv_aload_n hx hb d_X12_season_34 rfl (lv_at hl 1 rfl) ?_
        obtain ⟨q3, e4, h⟩ := bd_some h
        refine r_callV (As := []) (rest := []) (st' := [.int q3.1]) X hw hl mwX12_readsAct wd_1336 wp_46 wd_1334 (c_X12_readsAct hf e4) (r_recv X hw ct8 (o_300 hf)) rfl ⟨Nat.le_of_ble_eq_true rfl, Nat.le_of_ble_eq_true rfl⟩ ⟨Nat.le_refl _, Nat.le_refl _⟩ rfl rfl (Nat.le_of_ble_eq_true rfl) d_X12_season_35 (fun H locs hw => ?_)
        refine lv_istore_n (lv' := [(2, .int q3.1), (0, .ref (ga G 300)), (1, .int y1)]) hx hb d_X12_season_38 rfl hl (Nat.le_of_ble_eq_true rfl) rfl (fun ls hl => ?_)
        refine lv_goto (tgt := 19) hx hb d_X12_season_39 (by decide) ?_
        obtain rfl := Option.some.inj h
        dsimp only [Sum.elim_inl] at hk
        exact hk _ _ _ hw (lv_sub hl [0, 1, 2] rfl)
  have b64 : ∀ (τ : St) (x4 : Int32) (o : (Int32 × St) ⊕ (Int32 × St)), f_X12_season_s64 τ x4 = some o → Sum.elim (fun z : Int32 × St => Wat p l e (rmk 8 263) s m args below meth c Q G 5 64 [] [(4, .int z.1), (0, .ref (ga G 300))] χ z.2) (fun z : Int32 × St => Wat p l e (rmk 8 263) s m args below meth c Q G 5 88 [] [(0, .ref (ga G 300)), (4, .int z.1)] χ z.2) o → Wat p l e (rmk 8 263) s m args below meth c Q G 5 64 [] [(4, .int x4), (0, .ref (ga G 300))] χ τ := by
    intro τ x4 o h hk H locs ls hw hl
    unfold f_X12_season_s64 at h
    refine lv_iload hx hb d_X12_season_64 (lv_at hl 0 rfl) ?_
    refine lv_aload_n hx hb d_X12_season_66 rfl (lv_at hl 1 rfl) ?_
    refine m_geti (j := 26) X hw ct8 (o_300 hf) (Nat.le_of_ble_eq_true rfl) rfl (Nat.le_of_ble_eq_true rfl) wd_982 d_X12_season_67 ?_
    refine lv_icmp_ge (tgt := 88) hx hb d_X12_season_70 (by decide) (fun hc => ?_) (fun hc => ?_)
    · have h := ite_t h hc
      obtain rfl := Option.some.inj h
      dsimp only [Sum.elim_inr] at hk
      exact hk _ _ _ hw (lv_sub hl [1, 0] rfl)
    · have h := ite_f h hc
      refine lv_aload_n hx hb d_X12_season_73 rfl (lv_at hl 1 rfl) ?_
      refine lv_iload hx hb d_X12_season_74 (lv_at hl 0 rfl) ?_
      obtain ⟨q12, e13, h⟩ := bd_some h
      refine r_callV (As := [.int x4]) (rest := []) (st' := [.int q12.1]) X hw hl mwX12_does wd_1345 wp_48 wd_1343 (c_X12_does hf e13) (r_recv X hw ct8 (o_300 hf)) rfl ⟨Nat.le_of_ble_eq_true rfl, Nat.le_of_ble_eq_true rfl⟩ ⟨Nat.le_refl _, Nat.le_refl _⟩ rfl rfl (Nat.le_of_ble_eq_true rfl) d_X12_season_76 (fun H locs hw => ?_)
      refine lv_if_eq (tgt := 88) hx hb d_X12_season_79 (by decide) (fun hc => ?_) (fun hc => ?_)
      · have h := ite_t h hc
        obtain rfl := Option.some.inj h
        dsimp only [Sum.elim_inr] at hk
        exact hk _ _ _ hw (lv_sub hl [1, 0] rfl)
      · have h := ite_f h hc
        refine lv_iinc (v := (x4 + (1 : Int32))) (k := 0) (lv' := [(4, .int (x4 + (1 : Int32))), (0, .ref (ga G 300))]) hx hb d_X12_season_82 hl rfl (by rfl) (Nat.le_of_ble_eq_true rfl) rfl (fun ls hl => ?_)
        refine lv_goto (tgt := 64) hx hb d_X12_season_85 (by decide) ?_
        obtain rfl := Option.some.inj h
        dsimp only [Sum.elim_inl] at hk
        exact hk _ _ _ hw (lv_sub hl [0, 1] rfl)
  have j108 : ∀ (τ : St) (x4 : Int32) (s1 : Int32), f_X12_season_j108 τ x4 s1 = some q → Wat p l e (rmk 8 263) s m args below meth c Q G 5 108 [.int s1, .ref (ga G 300)] [(0, .ref (ga G 300)), (4, .int x4)] χ τ := by
    intro τ x4 s1 h H locs ls hw hl
    unfold f_X12_season_j108 at h
    obtain ⟨q17, e18, h⟩ := bd_some h
    refine r_callS (As := [.int s1]) (rest := [.ref (ga G 300)]) (st' := [.int q17, .ref (ga G 300)]) X hw hl mwX12_flag wd_1180 wd_1179 (c_X12_flag hf e18) rfl ⟨Nat.le_of_ble_eq_true rfl, Nat.le_of_ble_eq_true rfl⟩ ⟨Nat.le_refl _, Nat.le_refl _⟩ rfl rfl (Nat.le_of_ble_eq_true rfl) d_X12_season_108 (fun H locs hw => ?_)
    refine lv_i2l hx hb d_X12_season_111 rfl ?_
    obtain ⟨q19, e20, h⟩ := bd_some h
    refine r_callV (As := [.long q17.toInt64]) (rest := []) (st' := []) X hw hl mwX12_enters wd_1282 wp_38 wd_1280 (c_X12_enters hf e20) (r_recv X hw ct8 (o_300 hf)) rfl ⟨Nat.le_of_ble_eq_true rfl, Nat.le_of_ble_eq_true rfl⟩ ⟨Nat.le_refl _, Nat.le_refl _⟩ rfl rfl (Nat.le_of_ble_eq_true rfl) d_X12_season_112 (fun H locs hw => ?_)
    refine lv_aload_n hx hb d_X12_season_115 rfl (lv_at hl 0 rfl) ?_
    refine lv_aload_n hx hb d_X12_season_116 rfl (lv_at hl 0 rfl) ?_
    refine lv_aload_n hx hb d_X12_season_117 rfl (lv_at hl 0 rfl) ?_
    refine r_getr (j := 6) X hw ct8 (o_300 hf) rfl (Nat.le_of_ble_eq_true rfl) (q := 306) rfl wd_962 d_X12_season_118 ?_
    obtain ⟨q21, e22, h⟩ := bd_some h
    refine r_callV (As := [.ref (ga G 306)]) (rest := [.ref (ga G 300)]) (st' := [.int q21, .ref (ga G 300)]) X hw hl mwX12_openOnes wd_1263 wp_35 wd_1261 (c_X12_openOnes hf (o_306 hf) (Nat.le_of_ble_eq_true rfl) e22) (r_recv X hw ct8 (o_300 hf)) rfl ⟨Nat.le_of_ble_eq_true rfl, Nat.le_of_ble_eq_true rfl⟩ ⟨Nat.le_refl _, Nat.le_refl _⟩ rfl rfl (Nat.le_of_ble_eq_true rfl) d_X12_season_121 (fun H locs hw => ?_)
    obtain ⟨q23, e24, h⟩ := bd_some h
    refine r_callS (As := [.int q21]) (rest := [.ref (ga G 300)]) (st' := [.int q23, .ref (ga G 300)]) X hw hl mwJ6_bitCount_0f7a4 wd_436 wd_1272 (c_J6_bitCount_0f7a4 e24) rfl ⟨Nat.le_of_ble_eq_true rfl, Nat.le_of_ble_eq_true rfl⟩ ⟨Nat.le_refl _, Nat.le_refl _⟩ rfl rfl (Nat.le_of_ble_eq_true rfl) d_X12_season_124 (fun H locs hw => ?_)
    refine lv_i2l hx hb d_X12_season_127 rfl ?_
    obtain ⟨q25, e26, h⟩ := bd_some h
    refine r_callV (As := [.long q23.toInt64]) (rest := []) (st' := []) X hw hl mwX12_enters wd_1282 wp_38 wd_1280 (c_X12_enters hf e26) (r_recv X hw ct8 (o_300 hf)) rfl ⟨Nat.le_of_ble_eq_true rfl, Nat.le_of_ble_eq_true rfl⟩ ⟨Nat.le_refl _, Nat.le_refl _⟩ rfl rfl (Nat.le_of_ble_eq_true rfl) d_X12_season_128 (fun H locs hw => ?_)
    refine lv_iload hx hb d_X12_season_131 (lv_at hl 1 rfl) ?_
    refine lv_if_le (tgt := 145) hx hb d_X12_season_133 (by decide) (fun hc => ?_) (fun hc => ?_)
    · have h := ite_t h hc
      refine lv_iconst (v := (0 : Int32)) hx hb d_X12_season_145 (by decide) ?_
      obtain rfl := Option.some.inj h
      subst hQ
      exact r_iret X hr hlk hw d_X12_season_146
    · have h := ite_f h hc
      refine lv_aload_n hx hb d_X12_season_136 rfl (lv_at hl 0 rfl) ?_
      refine lv_iload hx hb d_X12_season_137 (lv_at hl 1 rfl) ?_
      obtain ⟨q27, e28, h⟩ := bd_some h
      refine r_callV (As := [.int x4]) (rest := []) (st' := [.int q27.1]) X hw hl mwX12_adds wd_1286 wp_39 wd_1284 (c_X12_adds hf e28) (r_recv X hw ct8 (o_300 hf)) rfl ⟨Nat.le_of_ble_eq_true rfl, Nat.le_of_ble_eq_true rfl⟩ ⟨Nat.le_refl _, Nat.le_refl _⟩ rfl rfl (Nat.le_of_ble_eq_true rfl) d_X12_season_139 (fun H locs hw => ?_)
      refine lv_goto (tgt := 146) hx hb d_X12_season_142 (by decide) ?_
      obtain rfl := Option.some.inj h
      subst hQ
      exact r_iret X hr hlk hw d_X12_season_146
  have j88 : ∀ (τ : St) (x4 : Int32), f_X12_season_j88 τ x4 = some q → Wat p l e (rmk 8 263) s m args below meth c Q G 5 88 [] [(0, .ref (ga G 300)), (4, .int x4)] χ τ := by
    intro τ x4 h H locs ls hw hl
    unfold f_X12_season_j88 at h
    refine lv_aload_n hx hb d_X12_season_88 rfl (lv_at hl 0 rfl) ?_
    refine lv_iconst (v := (0 : Int32)) hx hb d_X12_season_89 (by decide) ?_
    refine m_puti (j := 1) X hw ct8 (o_300 hf) (Nat.le_of_ble_eq_true rfl) rfl (Nat.le_of_ble_eq_true rfl) rfl rfl rfl wd_957 d_X12_season_90 (fun H locs hw => ?_)
    refine lv_aload_n hx hb d_X12_season_93 rfl (lv_at hl 0 rfl) ?_
    refine lv_iload hx hb d_X12_season_94 (lv_at hl 1 rfl) ?_
    refine lv_aload_n hx hb d_X12_season_96 rfl (lv_at hl 0 rfl) ?_
    refine m_geti (j := 26) X hw ct8 (o_300 hf) (Nat.le_of_ble_eq_true rfl) rfl (Nat.le_of_ble_eq_true rfl) wd_982 d_X12_season_97 ?_
    refine lv_icmp_ge (tgt := 107) hx hb d_X12_season_100 (by decide) (fun hc => ?_) (fun hc => ?_)
    · simp only [if_pos hc] at h
      refine lv_iconst (v := (0 : Int32)) hx hb d_X12_season_107 (by decide) ?_
      exact j108 (sF τ 300 1 (0 : Int32)) x4 (0 : Int32) h _ _ _ hw (lv_sub hl [0, 1] rfl)
    · simp only [if_neg hc] at h
      refine lv_iconst (v := (1 : Int32)) hx hb d_X12_season_103 (by decide) ?_
      refine lv_goto (tgt := 108) hx hb d_X12_season_104 (by decide) ?_
      exact j108 (sF τ 300 1 (0 : Int32)) x4 (1 : Int32) h _ _ _ hw (lv_sub hl [0, 1] rfl)
  have j42 : ∀ (τ : St) (x1 : Int32) (x2 : Int32), f_X12_season_j42 τ x1 x2 = some q → Wat p l e (rmk 8 263) s m args below meth c Q G 5 42 [] [(0, .ref (ga G 300)), (1, .int x1), (2, .int x2)] χ τ := by
    intro τ x1 x2 h H locs ls hw hl
    unfold f_X12_season_j42 at h
    refine lv_aload_n hx hb d_X12_season_42 rfl (lv_at hl 0 rfl) ?_
    refine lv_iload_n hx hb d_X12_season_43 rfl (lv_at hl 1 rfl) ?_
    refine lv_bipush (v := (60 : Int32)) hx hb d_X12_season_44 (by decide) ?_
    refine lv_iload_n hx hb d_X12_season_46 rfl (lv_at hl 2 rfl) ?_
    obtain ⟨q8, e9, h⟩ := bd_some h
    refine r_callV (As := [.int x1, .int (60 : Int32), .int x2]) (rest := []) (st' := [.int q8]) X hw hl mwX12_faultOf wd_1184 wp_23 wd_1182 (c_X12_faultOf hf e9) (r_recv X hw ct8 (o_300 hf)) rfl ⟨Nat.le_of_ble_eq_true rfl, Nat.le_of_ble_eq_true rfl⟩ ⟨Nat.le_refl _, Nat.le_refl _⟩ rfl rfl (Nat.le_of_ble_eq_true rfl) d_X12_season_47 (fun H locs hw => ?_)
    refine lv_istore_n (lv' := [(3, .int q8), (0, .ref (ga G 300)), (1, .int x1), (2, .int x2)]) hx hb d_X12_season_50 rfl hl (Nat.le_of_ble_eq_true rfl) rfl (fun ls hl => ?_)
    refine lv_iload_n hx hb d_X12_season_51 rfl (lv_at hl 0 rfl) ?_
    refine lv_if_ge (tgt := 57) hx hb d_X12_season_52 (by decide) (fun hc => ?_) (fun hc => ?_)
    · have h := ite_t h hc
      refine lv_aload_n hx hb d_X12_season_57 rfl (lv_at hl 1 rfl) ?_
      obtain ⟨q10, e11, h⟩ := bd_some h
      refine r_callV (As := []) (rest := []) (st' := []) X hw hl mwX12_putsBy wd_1251 wp_32 wd_1249 (c_X12_putsBy hf e11) (r_recv X hw ct8 (o_300 hf)) rfl ⟨Nat.le_of_ble_eq_true rfl, Nat.le_of_ble_eq_true rfl⟩ ⟨Nat.le_refl _, Nat.le_refl _⟩ rfl rfl (Nat.le_of_ble_eq_true rfl) d_X12_season_58 (fun H locs hw => ?_)
      refine lv_iconst (v := (0 : Int32)) hx hb d_X12_season_61 (by decide) ?_
      refine lv_istore (lv' := [(4, .int (0 : Int32)), (3, .int q8), (0, .ref (ga G 300)), (1, .int x1), (2, .int x2)]) hx hb d_X12_season_62 hl (Nat.le_of_ble_eq_true rfl) rfl (fun ls hl => ?_)
      obtain ⟨z14, e15, h⟩ := bd_some h
      refine iter_w (Wh := fun z : Int32 × St => Wat p l e (rmk 8 263) s m args below meth c Q G 5 64 [] [(4, .int z.1), (0, .ref (ga G 300))] χ z.2) (K := fun z : Int32 × St => Wat p l e (rmk 8 263) s m args below meth c Q G 5 88 [] [(0, .ref (ga G 300)), (4, .int z.1)] χ z.2) (fun z o h1 h2 => b64 z.2 z.1 o h1 h2) FU _ _ e15 ?_ _ _ _ hw (lv_sub hl [0, 2] rfl)
      intro H locs ls hw hl
      exact j88 z14.2 z14.1 h _ _ _ hw (lv_sub hl [0, 1] rfl)
    · have h := ite_f h hc
      refine lv_iload_n hx hb d_X12_season_55 rfl (lv_at hl 0 rfl) ?_
      obtain rfl := Option.some.inj h
      subst hQ
      exact r_iret X hr hlk hw d_X12_season_56
  intro H locs ls hw hl
  have hl : lv_has ls 5 [(0, .ref (ga G 300))] := hl
  unfold f_X12_season at h
  refine lv_aload_n hx hb d_X12_season_0 rfl (lv_at hl 0 rfl) ?_
  refine lv_iconst (v := (0 : Int32)) hx hb d_X12_season_1 (by decide) ?_
  refine m_puti (j := 0) X hw ct8 (o_300 hf) (Nat.le_of_ble_eq_true rfl) rfl (Nat.le_of_ble_eq_true rfl) rfl rfl rfl wd_956 d_X12_season_2 (fun H locs hw => ?_)
  refine lv_aload_n hx hb d_X12_season_5 rfl (lv_at hl 0 rfl) ?_
  refine lv_bipush (v := (60 : Int32)) hx hb d_X12_season_6 (by decide) ?_
  obtain ⟨q1, e2, h⟩ := bd_some h
  refine r_callV (As := [.int (60 : Int32)]) (rest := []) (st' := [.int q1.1]) X hw hl mwX12_begins wd_1101 wp_16 wd_1099 (c_X12_begins hf e2) (r_recv X hw ct8 (o_300 hf)) rfl ⟨Nat.le_of_ble_eq_true rfl, Nat.le_of_ble_eq_true rfl⟩ ⟨Nat.le_refl _, Nat.le_refl _⟩ rfl rfl (Nat.le_of_ble_eq_true rfl) d_X12_season_8 (fun H locs hw => ?_)
  refine lv_istore_n (lv' := [(1, .int q1.1), (0, .ref (ga G 300))]) hx hb d_X12_season_11 rfl hl (Nat.le_of_ble_eq_true rfl) rfl (fun ls hl => ?_)
  refine lv_aload_n hx hb d_X12_season_12 rfl (lv_at hl 1 rfl) ?_
  refine lv_iconst (v := (0 : Int32)) hx hb d_X12_season_13 (by decide) ?_
  refine m_puti (j := 26) X hw ct8 (o_300 hf) (Nat.le_of_ble_eq_true rfl) rfl (Nat.le_of_ble_eq_true rfl) rfl rfl rfl wd_982 d_X12_season_14 (fun H locs hw => ?_)
  refine lv_iconst (v := (1 : Int32)) hx hb d_X12_season_17 (by decide) ?_
  refine lv_istore_n (lv' := [(2, .int (1 : Int32)), (1, .int q1.1), (0, .ref (ga G 300))]) hx hb d_X12_season_18 rfl hl (Nat.le_of_ble_eq_true rfl) rfl (fun ls hl => ?_)
  obtain ⟨z5, e6, h⟩ := bd_some h
  refine iter_w (Wh := fun z : Int32 × St => Wat p l e (rmk 8 263) s m args below meth c Q G 5 19 [] [(2, .int z.1), (0, .ref (ga G 300)), (1, .int q1.1)] χ z.2) (K := fun z : Int32 × St => Wat p l e (rmk 8 263) s m args below meth c Q G 5 42 [] [(0, .ref (ga G 300)), (1, .int q1.1), (2, .int z.1)] χ z.2) (fun z o h1 h2 => b19 z.2 q1.1 z.1 o h1 h2) FU _ _ e6 ?_ _ _ _ hw (lv_sub hl [0, 2, 1] rfl)
  intro H locs ls hw hl
  exact j42 z5.2 q1.1 z5.1 h _ _ _ hw (lv_sub hl [0, 1, 2] rfl)
abbrev yX12_law : MethodName := ⟨"OysterBedsModel", "law", "()I"⟩
theorem mwX12_law : MW yX12_law prog_14_method_110_code 5 (some .int) 0 := ⟨wd_1579, wd_10, by decide +kernel⟩
theorem d_X12_law_0 : decode prog_14_method_110_code 0 = .ok (.aload_n 0, 1) := by decide +kernel
theorem d_X12_law_1 : decode prog_14_method_110_code 1 = .ok (.iconst 0, 1) := by decide +kernel
theorem d_X12_law_2 : decode prog_14_method_110_code 2 = .ok (.putfield 87, 3) := by decide +kernel
theorem d_X12_law_5 : decode prog_14_method_110_code 5 = .ok (.aload_n 0, 1) := by decide +kernel
theorem d_X12_law_6 : decode prog_14_method_110_code 6 = .ok (.invokevirtual 217, 3) := by decide +kernel
theorem d_X12_law_9 : decode prog_14_method_110_code 9 = .ok (.istore_n 1, 1) := by decide +kernel
theorem d_X12_law_10 : decode prog_14_method_110_code 10 = .ok (.iload_n 1, 1) := by decide +kernel
theorem d_X12_law_11 : decode prog_14_method_110_code 11 = .ok (.ifCond .ge 11, 3) := by decide +kernel
theorem d_X12_law_14 : decode prog_14_method_110_code 14 = .ok (.iload_n 1, 1) := by decide +kernel
theorem d_X12_law_15 : decode prog_14_method_110_code 15 = .ok (.iconst 1, 1) := by decide +kernel
theorem d_X12_law_16 : decode prog_14_method_110_code 16 = .ok (.iadd, 1) := by decide +kernel
theorem d_X12_law_17 : decode prog_14_method_110_code 17 = .ok (.ldc_w 407, 3) := by decide +kernel
theorem d_X12_law_20 : decode prog_14_method_110_code 20 = .ok (.isub, 1) := by decide +kernel
theorem d_X12_law_21 : decode prog_14_method_110_code 21 = .ok (.ireturn, 1) := by decide +kernel
theorem d_X12_law_22 : decode prog_14_method_110_code 22 = .ok (.aload_n 0, 1) := by decide +kernel
theorem d_X12_law_23 : decode prog_14_method_110_code 23 = .ok (.invokevirtual 408, 3) := by decide +kernel
theorem d_X12_law_26 : decode prog_14_method_110_code 26 = .ok (.istore_n 2, 1) := by decide +kernel
theorem d_X12_law_27 : decode prog_14_method_110_code 27 = .ok (.aload_n 0, 1) := by decide +kernel
theorem d_X12_law_28 : decode prog_14_method_110_code 28 = .ok (.getfield 214, 3) := by decide +kernel
theorem d_X12_law_31 : decode prog_14_method_110_code 31 = .ok (.istore_n 3, 1) := by decide +kernel
theorem d_X12_law_32 : decode prog_14_method_110_code 32 = .ok (.iconst 0, 1) := by decide +kernel
theorem d_X12_law_33 : decode prog_14_method_110_code 33 = .ok (.istore 4, 2) := by decide +kernel
theorem d_X12_law_35 : decode prog_14_method_110_code 35 = .ok (.iload 4, 2) := by decide +kernel
theorem d_X12_law_37 : decode prog_14_method_110_code 37 = .ok (.aload_n 0, 1) := by decide +kernel
theorem d_X12_law_38 : decode prog_14_method_110_code 38 = .ok (.getfield 214, 3) := by decide +kernel
theorem d_X12_law_41 : decode prog_14_method_110_code 41 = .ok (.if_icmp .ge 23, 3) := by decide +kernel
theorem d_X12_law_44 : decode prog_14_method_110_code 44 = .ok (.aload_n 0, 1) := by decide +kernel
theorem d_X12_law_45 : decode prog_14_method_110_code 45 = .ok (.getfield 74, 3) := by decide +kernel
theorem d_X12_law_48 : decode prog_14_method_110_code 48 = .ok (.iload 4, 2) := by decide +kernel
theorem d_X12_law_50 : decode prog_14_method_110_code 50 = .ok (.aload_n 0, 1) := by decide +kernel
theorem d_X12_law_51 : decode prog_14_method_110_code 51 = .ok (.getfield 29, 3) := by decide +kernel
theorem d_X12_law_54 : decode prog_14_method_110_code 54 = .ok (.iload 4, 2) := by decide +kernel
theorem d_X12_law_56 : decode prog_14_method_110_code 56 = .ok (.iaload, 1) := by decide +kernel
theorem d_X12_law_57 : decode prog_14_method_110_code 57 = .ok (.iastore, 1) := by decide +kernel
theorem d_X12_law_58 : decode prog_14_method_110_code 58 = .ok (.iinc 4 1, 3) := by decide +kernel
theorem d_X12_law_61 : decode prog_14_method_110_code 61 = .ok (.goto (-26), 3) := by decide +kernel
theorem d_X12_law_64 : decode prog_14_method_110_code 64 = .ok (.aload_n 0, 1) := by decide +kernel
theorem d_X12_law_65 : decode prog_14_method_110_code 65 = .ok (.aload_n 0, 1) := by decide +kernel
theorem d_X12_law_66 : decode prog_14_method_110_code 66 = .ok (.getfield 32, 3) := by decide +kernel
theorem d_X12_law_69 : decode prog_14_method_110_code 69 = .ok (.aload_n 0, 1) := by decide +kernel
theorem d_X12_law_70 : decode prog_14_method_110_code 70 = .ok (.getfield 193, 3) := by decide +kernel
theorem d_X12_law_73 : decode prog_14_method_110_code 73 = .ok (.invokevirtual 220, 3) := by decide +kernel
theorem d_X12_law_76 : decode prog_14_method_110_code 76 = .ok (.aload_n 0, 1) := by decide +kernel
theorem d_X12_law_77 : decode prog_14_method_110_code 77 = .ok (.invokevirtual 408, 3) := by decide +kernel
theorem d_X12_law_80 : decode prog_14_method_110_code 80 = .ok (.istore 4, 2) := by decide +kernel
theorem d_X12_law_82 : decode prog_14_method_110_code 82 = .ok (.aload_n 0, 1) := by decide +kernel
theorem d_X12_law_83 : decode prog_14_method_110_code 83 = .ok (.aload_n 0, 1) := by decide +kernel
theorem d_X12_law_84 : decode prog_14_method_110_code 84 = .ok (.getfield 74, 3) := by decide +kernel
theorem d_X12_law_87 : decode prog_14_method_110_code 87 = .ok (.iload_n 3, 1) := by decide +kernel
theorem d_X12_law_88 : decode prog_14_method_110_code 88 = .ok (.invokevirtual 220, 3) := by decide +kernel
theorem d_X12_law_91 : decode prog_14_method_110_code 91 = .ok (.aload_n 0, 1) := by decide +kernel
theorem d_X12_law_92 : decode prog_14_method_110_code 92 = .ok (.iconst 0, 1) := by decide +kernel
theorem d_X12_law_93 : decode prog_14_method_110_code 93 = .ok (.putfield 95, 3) := by decide +kernel
theorem d_X12_law_96 : decode prog_14_method_110_code 96 = .ok (.aload_n 0, 1) := by decide +kernel
theorem d_X12_law_97 : decode prog_14_method_110_code 97 = .ok (.iload 4, 2) := by decide +kernel
theorem d_X12_law_99 : decode prog_14_method_110_code 99 = .ok (.i2l, 1) := by decide +kernel
theorem d_X12_law_100 : decode prog_14_method_110_code 100 = .ok (.invokevirtual 98, 3) := by decide +kernel
theorem d_X12_law_103 : decode prog_14_method_110_code 103 = .ok (.aload_n 0, 1) := by decide +kernel
theorem d_X12_law_104 : decode prog_14_method_110_code 104 = .ok (.iload_n 2, 1) := by decide +kernel
theorem d_X12_law_105 : decode prog_14_method_110_code 105 = .ok (.i2l, 1) := by decide +kernel
theorem d_X12_law_106 : decode prog_14_method_110_code 106 = .ok (.invokevirtual 98, 3) := by decide +kernel
theorem d_X12_law_109 : decode prog_14_method_110_code 109 = .ok (.iload 4, 2) := by decide +kernel
theorem d_X12_law_111 : decode prog_14_method_110_code 111 = .ok (.iload_n 2, 1) := by decide +kernel
theorem d_X12_law_112 : decode prog_14_method_110_code 112 = .ok (.isub, 1) := by decide +kernel
theorem d_X12_law_113 : decode prog_14_method_110_code 113 = .ok (.ireturn, 1) := by decide +kernel
def f_X12_law_s35 (τ : St) (y2 : Int32) (y3 : Int32) (x4 : Int32) : Option ((Int32 × St) ⊕ (St)) := (if (cF τ 300 17) ≤ x4 then some (.inr τ) else gd (inb x4 80) (gd (inb x4 80) (some (.inl ((x4 + (1 : Int32)), (sA τ 336 x4.toNatClampNeg (cA τ 315 x4.toNatClampNeg)))))))
def f_X12_law (σ : St) : Option (Int32 × St) := (f_X12_readsRule (sF σ 300 0 (0 : Int32))).bind (fun q1 => (if 0 ≤ q1.1 then (f_X12_closingAll q1.2).bind (fun q3 => (iter (fun z => f_X12_law_s35 z.2 q3.1 (cF q3.2 300 17) z.1) FU ((0 : Int32), q3.2)).bind (fun z7 => (f_X12_laysCode z7 316 (cF z7 300 18)).bind (fun q10 => (f_X12_closingAll q10).bind (fun q12 => (f_X12_laysCode q12.2 336 (cF q3.2 300 17)).bind (fun q14 => (f_X12_enters (sF q14 300 1 (0 : Int32)) (q12.1).toInt64).bind (fun q16 => (f_X12_enters q16 (q3.1).toInt64).bind (fun q18 => some ((q12.1 - q3.1), q18)))))))) else some (((q1.1 + (1 : Int32)) - (100000 : Int32)), q1.2)))
theorem c_X12_law {l : Launch} {G : gT} {χ σ : St} (hf : FW G) {q : Int32 × St} (h : f_X12_law σ = some q) : Ct l G yX12_law prog_14_method_110_code 5 (some .int) 414 10045 [.ref (ga G 300)] χ σ (some (.int q.1)) χ q.2 := by
  refine Ct.of (by decide) (Nat.le_of_ble_eq_true rfl) ?_
  intro p e s m args below meth c Q X hr hlk hQ
  have hx := X.1
  have hb := X.2.1
  have b35 : ∀ (τ : St) (y2 : Int32) (y3 : Int32) (x4 : Int32) (o : (Int32 × St) ⊕ (St)), f_X12_law_s35 τ y2 y3 x4 = some o → Sum.elim (fun z : Int32 × St => Wat p l e (rmk 414 10045) s m args below meth c Q G 5 35 [] [(4, .int z.1), (0, .ref (ga G 300)), (2, .int y2), (3, .int y3)] χ z.2) (fun z : St => Wat p l e (rmk 414 10045) s m args below meth c Q G 5 64 [] [(0, .ref (ga G 300)), (2, .int y2), (3, .int y3)] χ z) o → Wat p l e (rmk 414 10045) s m args below meth c Q G 5 35 [] [(4, .int x4), (0, .ref (ga G 300)), (2, .int y2), (3, .int y3)] χ τ := by
    intro τ y2 y3 x4 o h hk H locs ls hw hl
    unfold f_X12_law_s35 at h
    refine lv_iload hx hb d_X12_law_35 (lv_at hl 0 rfl) ?_
    refine lv_aload_n hx hb d_X12_law_37 rfl (lv_at hl 1 rfl) ?_
    refine m_geti (j := 17) X hw ct8 (o_300 hf) (Nat.le_of_ble_eq_true rfl) rfl (Nat.le_of_ble_eq_true rfl) wd_973 d_X12_law_38 ?_
    refine lv_icmp_ge (tgt := 64) hx hb d_X12_law_41 (by decide) (fun hc => ?_) (fun hc => ?_)
    · have h := ite_t h hc
      obtain rfl := Option.some.inj h
      dsimp only [Sum.elim_inr] at hk
      exact hk _ _ _ hw (lv_sub hl [1, 2, 3] rfl)
    · have h := ite_f h hc
      refine lv_aload_n hx hb d_X12_law_44 rfl (lv_at hl 1 rfl) ?_
      refine r_getr (j := 36) X hw ct8 (o_300 hf) rfl (Nat.le_of_ble_eq_true rfl) (q := 336) rfl wd_992 d_X12_law_45 ?_
      refine lv_iload hx hb d_X12_law_48 (lv_at hl 0 rfl) ?_
      refine lv_aload_n hx hb d_X12_law_50 rfl (lv_at hl 1 rfl) ?_
      refine r_getr (j := 15) X hw ct8 (o_300 hf) rfl (Nat.le_of_ble_eq_true rfl) (q := 315) rfl wd_971 d_X12_law_51 ?_
      refine lv_iload hx hb d_X12_law_54 (lv_at hl 0 rfl) ?_
      obtain ⟨hi5, h⟩ := gd_some h
      refine m_iald X hw (o_315 hf) (Nat.le_of_ble_eq_true rfl) hi5 d_X12_law_56 ?_
      obtain ⟨hi6, h⟩ := gd_some h
      refine m_iast X hw (o_336 hf) (Nat.le_of_ble_eq_true rfl) hi6 d_X12_law_57 (fun H locs hw => ?_)
      refine lv_iinc (v := (x4 + (1 : Int32))) (k := 0) (lv' := [(4, .int (x4 + (1 : Int32))), (0, .ref (ga G 300)), (2, .int y2), (3, .int y3)]) hx hb d_X12_law_58 hl rfl (by rfl) (Nat.le_of_ble_eq_true rfl) rfl (fun ls hl => ?_)
      refine lv_goto (tgt := 35) hx hb d_X12_law_61 (by decide) ?_
      obtain rfl := Option.some.inj h
      dsimp only [Sum.elim_inl] at hk
      exact hk _ _ _ hw (lv_sub hl [0, 1, 2, 3] rfl)
  intro H locs ls hw hl
  have hl : lv_has ls 5 [(0, .ref (ga G 300))] := hl
  unfold f_X12_law at h
  refine lv_aload_n hx hb d_X12_law_0 rfl (lv_at hl 0 rfl) ?_
  refine lv_iconst (v := (0 : Int32)) hx hb d_X12_law_1 (by decide) ?_
  refine m_puti (j := 0) X hw ct8 (o_300 hf) (Nat.le_of_ble_eq_true rfl) rfl (Nat.le_of_ble_eq_true rfl) rfl rfl rfl wd_956 d_X12_law_2 (fun H locs hw => ?_)
  refine lv_aload_n hx hb d_X12_law_5 rfl (lv_at hl 0 rfl) ?_
  obtain ⟨q1, e2, h⟩ := bd_some h
  refine r_callV (As := []) (rest := []) (st' := [.int q1.1]) X hw hl mwX12_readsRule wd_1192 wp_24 wd_1190 (c_X12_readsRule hf e2) (r_recv X hw ct8 (o_300 hf)) rfl ⟨Nat.le_of_ble_eq_true rfl, Nat.le_of_ble_eq_true rfl⟩ ⟨Nat.le_refl _, Nat.le_refl _⟩ rfl rfl (Nat.le_of_ble_eq_true rfl) d_X12_law_6 (fun H locs hw => ?_)
  refine lv_istore_n (lv' := [(1, .int q1.1), (0, .ref (ga G 300))]) hx hb d_X12_law_9 rfl hl (Nat.le_of_ble_eq_true rfl) rfl (fun ls hl => ?_)
  refine lv_iload_n hx hb d_X12_law_10 rfl (lv_at hl 0 rfl) ?_
  refine lv_if_ge (tgt := 22) hx hb d_X12_law_11 (by decide) (fun hc => ?_) (fun hc => ?_)
  · have h := ite_t h hc
    refine lv_aload_n hx hb d_X12_law_22 rfl (lv_at hl 1 rfl) ?_
    obtain ⟨q3, e4, h⟩ := bd_some h
    refine r_callV (As := []) (rest := []) (st' := [.int q3.1]) X hw hl mwX12_closingAll wd_1583 wp_66 wd_1581 (c_X12_closingAll hf e4) (r_recv X hw ct8 (o_300 hf)) rfl ⟨Nat.le_of_ble_eq_true rfl, Nat.le_of_ble_eq_true rfl⟩ ⟨Nat.le_refl _, Nat.le_refl _⟩ rfl rfl (Nat.le_of_ble_eq_true rfl) d_X12_law_23 (fun H locs hw => ?_)
    refine lv_istore_n (lv' := [(2, .int q3.1), (1, .int q1.1), (0, .ref (ga G 300))]) hx hb d_X12_law_26 rfl hl (Nat.le_of_ble_eq_true rfl) rfl (fun ls hl => ?_)
    refine lv_aload_n hx hb d_X12_law_27 rfl (lv_at hl 2 rfl) ?_
    refine m_geti (j := 17) X hw ct8 (o_300 hf) (Nat.le_of_ble_eq_true rfl) rfl (Nat.le_of_ble_eq_true rfl) wd_973 d_X12_law_28 ?_
    refine lv_istore_n (lv' := [(3, .int (cF q3.2 300 17)), (2, .int q3.1), (1, .int q1.1), (0, .ref (ga G 300))]) hx hb d_X12_law_31 rfl hl (Nat.le_of_ble_eq_true rfl) rfl (fun ls hl => ?_)
    refine lv_iconst (v := (0 : Int32)) hx hb d_X12_law_32 (by decide) ?_
    refine lv_istore (lv' := [(4, .int (0 : Int32)), (3, .int (cF q3.2 300 17)), (2, .int q3.1), (1, .int q1.1), (0, .ref (ga G 300))]) hx hb d_X12_law_33 hl (Nat.le_of_ble_eq_true rfl) rfl (fun ls hl => ?_)
    obtain ⟨z7, e8, h⟩ := bd_some h
    refine iter_w (Wh := fun z : Int32 × St => Wat p l e (rmk 414 10045) s m args below meth c Q G 5 35 [] [(4, .int z.1), (0, .ref (ga G 300)), (2, .int q3.1), (3, .int (cF q3.2 300 17))] χ z.2) (K := fun z : St => Wat p l e (rmk 414 10045) s m args below meth c Q G 5 64 [] [(0, .ref (ga G 300)), (2, .int q3.1), (3, .int (cF q3.2 300 17))] χ z) (fun z o h1 h2 => b35 z.2 q3.1 (cF q3.2 300 17) z.1 o h1 h2) FU _ _ e8 ?_ _ _ _ hw (lv_sub hl [0, 4, 2, 1] rfl)
    intro H locs ls hw hl
    refine lv_aload_n hx hb d_X12_law_64 rfl (lv_at hl 0 rfl) ?_
    refine lv_aload_n hx hb d_X12_law_65 rfl (lv_at hl 0 rfl) ?_
    refine r_getr (j := 16) X hw ct8 (o_300 hf) rfl (Nat.le_of_ble_eq_true rfl) (q := 316) rfl wd_972 d_X12_law_66 ?_
    refine lv_aload_n hx hb d_X12_law_69 rfl (lv_at hl 0 rfl) ?_
    refine m_geti (j := 18) X hw ct8 (o_300 hf) (Nat.le_of_ble_eq_true rfl) rfl (Nat.le_of_ble_eq_true rfl) wd_974 d_X12_law_70 ?_
    obtain ⟨q10, e11, h⟩ := bd_some h
    refine r_callV (As := [.ref (ga G 316), .int (cF z7 300 18)]) (rest := []) (st' := []) X hw hl mwX12_laysCode wd_1212 wp_28 wd_1210 (c_X12_laysCode hf (o_316 hf) (Nat.le_of_ble_eq_true rfl) e11) (r_recv X hw ct8 (o_300 hf)) rfl ⟨Nat.le_of_ble_eq_true rfl, Nat.le_of_ble_eq_true rfl⟩ ⟨Nat.le_refl _, Nat.le_refl _⟩ rfl rfl (Nat.le_of_ble_eq_true rfl) d_X12_law_73 (fun H locs hw => ?_)
    refine lv_aload_n hx hb d_X12_law_76 rfl (lv_at hl 0 rfl) ?_
    obtain ⟨q12, e13, h⟩ := bd_some h
    refine r_callV (As := []) (rest := []) (st' := [.int q12.1]) X hw hl mwX12_closingAll wd_1583 wp_66 wd_1581 (c_X12_closingAll hf e13) (r_recv X hw ct8 (o_300 hf)) rfl ⟨Nat.le_of_ble_eq_true rfl, Nat.le_of_ble_eq_true rfl⟩ ⟨Nat.le_refl _, Nat.le_refl _⟩ rfl rfl (Nat.le_of_ble_eq_true rfl) d_X12_law_77 (fun H locs hw => ?_)
    refine lv_istore (lv' := [(4, .int q12.1), (0, .ref (ga G 300)), (2, .int q3.1), (3, .int (cF q3.2 300 17))]) hx hb d_X12_law_80 hl (Nat.le_of_ble_eq_true rfl) rfl (fun ls hl => ?_)
    refine lv_aload_n hx hb d_X12_law_82 rfl (lv_at hl 1 rfl) ?_
    refine lv_aload_n hx hb d_X12_law_83 rfl (lv_at hl 1 rfl) ?_
    refine r_getr (j := 36) X hw ct8 (o_300 hf) rfl (Nat.le_of_ble_eq_true rfl) (q := 336) rfl wd_992 d_X12_law_84 ?_
    refine lv_iload_n hx hb d_X12_law_87 rfl (lv_at hl 3 rfl) ?_
    obtain ⟨q14, e15, h⟩ := bd_some h
    refine r_callV (As := [.ref (ga G 336), .int (cF q3.2 300 17)]) (rest := []) (st' := []) X hw hl mwX12_laysCode wd_1212 wp_28 wd_1210 (c_X12_laysCode hf (o_336 hf) (Nat.le_of_ble_eq_true rfl) e15) (r_recv X hw ct8 (o_300 hf)) rfl ⟨Nat.le_of_ble_eq_true rfl, Nat.le_of_ble_eq_true rfl⟩ ⟨Nat.le_refl _, Nat.le_refl _⟩ rfl rfl (Nat.le_of_ble_eq_true rfl) d_X12_law_88 (fun H locs hw => ?_)
    refine lv_aload_n hx hb d_X12_law_91 rfl (lv_at hl 1 rfl) ?_
    refine lv_iconst (v := (0 : Int32)) hx hb d_X12_law_92 (by decide) ?_
    refine m_puti (j := 1) X hw ct8 (o_300 hf) (Nat.le_of_ble_eq_true rfl) rfl (Nat.le_of_ble_eq_true rfl) rfl rfl rfl wd_957 d_X12_law_93 (fun H locs hw => ?_)
    refine lv_aload_n hx hb d_X12_law_96 rfl (lv_at hl 1 rfl) ?_
    refine lv_iload hx hb d_X12_law_97 (lv_at hl 0 rfl) ?_
    refine lv_i2l hx hb d_X12_law_99 rfl ?_
    obtain ⟨q16, e17, h⟩ := bd_some h
    refine r_callV (As := [.long (q12.1).toInt64]) (rest := []) (st' := []) X hw hl mwX12_enters wd_1282 wp_38 wd_1280 (c_X12_enters hf e17) (r_recv X hw ct8 (o_300 hf)) rfl ⟨Nat.le_of_ble_eq_true rfl, Nat.le_of_ble_eq_true rfl⟩ ⟨Nat.le_refl _, Nat.le_refl _⟩ rfl rfl (Nat.le_of_ble_eq_true rfl) d_X12_law_100 (fun H locs hw => ?_)
    refine lv_aload_n hx hb d_X12_law_103 rfl (lv_at hl 1 rfl) ?_
    refine lv_iload_n hx hb d_X12_law_104 rfl (lv_at hl 2 rfl) ?_
    refine lv_i2l hx hb d_X12_law_105 rfl ?_
    obtain ⟨q18, e19, h⟩ := bd_some h
    refine r_callV (As := [.long (q3.1).toInt64]) (rest := []) (st' := []) X hw hl mwX12_enters wd_1282 wp_38 wd_1280 (c_X12_enters hf e19) (r_recv X hw ct8 (o_300 hf)) rfl ⟨Nat.le_of_ble_eq_true rfl, Nat.le_of_ble_eq_true rfl⟩ ⟨Nat.le_refl _, Nat.le_refl _⟩ rfl rfl (Nat.le_of_ble_eq_true rfl) d_X12_law_106 (fun H locs hw => ?_)
    refine lv_iload hx hb d_X12_law_109 (lv_at hl 0 rfl) ?_
    refine lv_iload_n hx hb d_X12_law_111 rfl (lv_at hl 2 rfl) ?_
    refine lv_isub hx hb d_X12_law_112 ?_
    obtain rfl := Option.some.inj h
    subst hQ
    exact r_iret X hr hlk hw d_X12_law_113
  · have h := ite_f h hc
    refine lv_iload_n hx hb d_X12_law_14 rfl (lv_at hl 0 rfl) ?_
    refine lv_iconst (v := (1 : Int32)) hx hb d_X12_law_15 (by decide) ?_
    refine lv_iadd hx hb d_X12_law_16 ?_
    refine r_ldcw X wd_1580 d_X12_law_17 ?_
    refine lv_isub hx hb d_X12_law_20 ?_
    obtain rfl := Option.some.inj h
    subst hQ
    exact r_iret X hr hlk hw d_X12_law_21
