abbrev yJ0_length_8abf5 : MethodName := ⟨"java/lang/String", "length", "()I"⟩
theorem mwJ0_length_8abf5 : MW yJ0_length_8abf5 prog_22_method_54_code 1 (some .int) 0 := ⟨wd_1116, wd_11, by decide +kernel⟩
theorem d_J0_length_8abf5_0 : decode prog_22_method_54_code 0 = .ok (.aload_n 0, 1) := by decide +kernel
theorem d_J0_length_8abf5_1 : decode prog_22_method_54_code 1 = .ok (.getfield 9, 3) := by decide +kernel
theorem d_J0_length_8abf5_4 : decode prog_22_method_54_code 4 = .ok (.arraylength, 1) := by decide +kernel
theorem d_J0_length_8abf5_5 : decode prog_22_method_54_code 5 = .ok (.aload_n 0, 1) := by decide +kernel
theorem d_J0_length_8abf5_6 : decode prog_22_method_54_code 6 = .ok (.invokevirtual 335, 3) := by decide +kernel
theorem d_J0_length_8abf5_9 : decode prog_22_method_54_code 9 = .ok (.ishr, 1) := by decide +kernel
theorem d_J0_length_8abf5_10 : decode prog_22_method_54_code 10 = .ok (.ireturn, 1) := by decide +kernel
abbrev yJ0_coder_7d493 : MethodName := ⟨"java/lang/String", "coder", "()B"⟩
theorem mwJ0_coder_7d493 : MW yJ0_coder_7d493 prog_22_method_152_code 1 (some .byte) 0 := ⟨wd_1120, wd_11, by decide +kernel⟩
theorem d_J0_coder_7d493_0 : decode prog_22_method_152_code 0 = .ok (.getstatic 38, 3) := by decide +kernel
theorem d_J0_coder_7d493_3 : decode prog_22_method_152_code 3 = .ok (.ifCond .eq 10, 3) := by decide +kernel
theorem d_J0_coder_7d493_6 : decode prog_22_method_152_code 6 = .ok (.aload_n 0, 1) := by decide +kernel
theorem d_J0_coder_7d493_7 : decode prog_22_method_152_code 7 = .ok (.getfield 15, 3) := by decide +kernel
theorem d_J0_coder_7d493_10 : decode prog_22_method_152_code 10 = .ok (.goto 4, 3) := by decide +kernel
theorem d_J0_coder_7d493_13 : decode prog_22_method_152_code 13 = .ok (.iconst 1, 1) := by decide +kernel
theorem d_J0_coder_7d493_14 : decode prog_22_method_152_code 14 = .ok (.ireturn, 1) := by decide +kernel
abbrev yJ0_charAt_5068e : MethodName := ⟨"java/lang/String", "charAt", "(I)C"⟩
theorem mwJ0_charAt_5068e : MW yJ0_charAt_5068e prog_22_method_56_code 2 (some .char) 1 := ⟨wd_1126, wd_11, by decide +kernel⟩
theorem d_J0_charAt_5068e_0 : decode prog_22_method_56_code 0 = .ok (.aload_n 0, 1) := by decide +kernel
theorem d_J0_charAt_5068e_1 : decode prog_22_method_56_code 1 = .ok (.invokevirtual 492, 3) := by decide +kernel
theorem d_J0_charAt_5068e_4 : decode prog_22_method_56_code 4 = .ok (.ifCond .eq 12, 3) := by decide +kernel
theorem d_J0_charAt_5068e_7 : decode prog_22_method_56_code 7 = .ok (.aload_n 0, 1) := by decide +kernel
theorem d_J0_charAt_5068e_8 : decode prog_22_method_56_code 8 = .ok (.getfield 9, 3) := by decide +kernel
theorem d_J0_charAt_5068e_11 : decode prog_22_method_56_code 11 = .ok (.iload_n 1, 1) := by decide +kernel
theorem d_J0_charAt_5068e_12 : decode prog_22_method_56_code 12 = .ok (.invokestatic 495, 3) := by decide +kernel
theorem d_J0_charAt_5068e_15 : decode prog_22_method_56_code 15 = .ok (.ireturn, 1) := by decide +kernel
theorem d_J0_charAt_5068e_16 : decode prog_22_method_56_code 16 = .ok (.aload_n 0, 1) := by decide +kernel
theorem d_J0_charAt_5068e_17 : decode prog_22_method_56_code 17 = .ok (.getfield 9, 3) := by decide +kernel
theorem d_J0_charAt_5068e_20 : decode prog_22_method_56_code 20 = .ok (.iload_n 1, 1) := by decide +kernel
theorem d_J0_charAt_5068e_21 : decode prog_22_method_56_code 21 = .ok (.invokestatic 498, 3) := by decide +kernel
theorem d_J0_charAt_5068e_24 : decode prog_22_method_56_code 24 = .ok (.ireturn, 1) := by decide +kernel
abbrev yJ0_isLatin1_aae02 : MethodName := ⟨"java/lang/String", "isLatin1", "()Z"⟩
theorem mwJ0_isLatin1_aae02 : MW yJ0_isLatin1_aae02 prog_22_method_154_code 1 (some .boolean) 0 := ⟨wd_1130, wd_11, by decide +kernel⟩
theorem d_J0_isLatin1_aae02_0 : decode prog_22_method_154_code 0 = .ok (.getstatic 38, 3) := by decide +kernel
theorem d_J0_isLatin1_aae02_3 : decode prog_22_method_154_code 3 = .ok (.ifCond .eq 14, 3) := by decide +kernel
theorem d_J0_isLatin1_aae02_6 : decode prog_22_method_154_code 6 = .ok (.aload_n 0, 1) := by decide +kernel
theorem d_J0_isLatin1_aae02_7 : decode prog_22_method_154_code 7 = .ok (.getfield 15, 3) := by decide +kernel
theorem d_J0_isLatin1_aae02_10 : decode prog_22_method_154_code 10 = .ok (.ifCond .ne 7, 3) := by decide +kernel
theorem d_J0_isLatin1_aae02_13 : decode prog_22_method_154_code 13 = .ok (.iconst 1, 1) := by decide +kernel
theorem d_J0_isLatin1_aae02_14 : decode prog_22_method_154_code 14 = .ok (.goto 4, 3) := by decide +kernel
theorem d_J0_isLatin1_aae02_17 : decode prog_22_method_154_code 17 = .ok (.iconst 0, 1) := by decide +kernel
theorem d_J0_isLatin1_aae02_18 : decode prog_22_method_154_code 18 = .ok (.ireturn, 1) := by decide +kernel
abbrev yJ0_checkIndex_df160 : MethodName := ⟨"java/lang/String", "checkIndex", "(II)V"⟩
theorem mwJ0_checkIndex_df160 : MW yJ0_checkIndex_df160 prog_22_method_155_code 2 none 2 := ⟨wd_1136, wd_11, by decide +kernel⟩
theorem d_J0_checkIndex_df160_0 : decode prog_22_method_155_code 0 = .ok (.iload_n 0, 1) := by decide +kernel
theorem d_J0_checkIndex_df160_1 : decode prog_22_method_155_code 1 = .ok (.iload_n 1, 1) := by decide +kernel
theorem d_J0_checkIndex_df160_2 : decode prog_22_method_155_code 2 = .ok (.getstatic 1053, 3) := by decide +kernel
theorem d_J0_checkIndex_df160_5 : decode prog_22_method_155_code 5 = .ok (.invokestatic 1059, 3) := by decide +kernel
theorem d_J0_checkIndex_df160_8 : decode prog_22_method_155_code 8 = .ok (.pop, 1) := by decide +kernel
theorem d_J0_checkIndex_df160_9 : decode prog_22_method_155_code 9 = .ok (.return_, 1) := by decide +kernel
abbrev yJ1_charAt_3b067 : MethodName := ⟨"java/lang/StringLatin1", "charAt", "([BI)C"⟩
theorem mwJ1_charAt_3b067 : MW yJ1_charAt_3b067 prog_23_method_2_code 2 (some .char) 2 := ⟨wd_1133, wd_12, by decide +kernel⟩
theorem d_J1_charAt_3b067_0 : decode prog_23_method_2_code 0 = .ok (.iload_n 1, 1) := by decide +kernel
theorem d_J1_charAt_3b067_1 : decode prog_23_method_2_code 1 = .ok (.aload_n 0, 1) := by decide +kernel
theorem d_J1_charAt_3b067_2 : decode prog_23_method_2_code 2 = .ok (.arraylength, 1) := by decide +kernel
theorem d_J1_charAt_3b067_3 : decode prog_23_method_2_code 3 = .ok (.invokestatic 9, 3) := by decide +kernel
theorem d_J1_charAt_3b067_6 : decode prog_23_method_2_code 6 = .ok (.aload_n 0, 1) := by decide +kernel
theorem d_J1_charAt_3b067_7 : decode prog_23_method_2_code 7 = .ok (.iload_n 1, 1) := by decide +kernel
theorem d_J1_charAt_3b067_8 : decode prog_23_method_2_code 8 = .ok (.baload, 1) := by decide +kernel
theorem d_J1_charAt_3b067_9 : decode prog_23_method_2_code 9 = .ok (.sipush 255, 3) := by decide +kernel
theorem d_J1_charAt_3b067_12 : decode prog_23_method_2_code 12 = .ok (.iand, 1) := by decide +kernel
theorem d_J1_charAt_3b067_13 : decode prog_23_method_2_code 13 = .ok (.i2c, 1) := by decide +kernel
theorem d_J1_charAt_3b067_14 : decode prog_23_method_2_code 14 = .ok (.ireturn, 1) := by decide +kernel
abbrev yJ3_checkIndex_8e157 : MethodName := ⟨"jdk/internal/util/Preconditions", "checkIndex", "(IILjava/util/function/BiFunction;)I"⟩
theorem mwJ3_checkIndex_8e157 : MW yJ3_checkIndex_8e157 prog_29_method_11_code 3 (some .int) 3 := ⟨wd_1141, wd_13, by decide +kernel⟩
theorem d_J3_checkIndex_8e157_0 : decode prog_29_method_11_code 0 = .ok (.iload_n 0, 1) := by decide +kernel
theorem d_J3_checkIndex_8e157_1 : decode prog_29_method_11_code 1 = .ok (.ifCond .lt 8, 3) := by decide +kernel
theorem d_J3_checkIndex_8e157_4 : decode prog_29_method_11_code 4 = .ok (.iload_n 0, 1) := by decide +kernel
theorem d_J3_checkIndex_8e157_5 : decode prog_29_method_11_code 5 = .ok (.iload_n 1, 1) := by decide +kernel
theorem d_J3_checkIndex_8e157_6 : decode prog_29_method_11_code 6 = .ok (.if_icmp .lt 10, 3) := by decide +kernel
theorem d_J3_checkIndex_8e157_9 : decode prog_29_method_11_code 9 = .ok (.aload_n 2, 1) := by decide +kernel
theorem d_J3_checkIndex_8e157_10 : decode prog_29_method_11_code 10 = .ok (.iload_n 0, 1) := by decide +kernel
theorem d_J3_checkIndex_8e157_11 : decode prog_29_method_11_code 11 = .ok (.iload_n 1, 1) := by decide +kernel
theorem d_J3_checkIndex_8e157_12 : decode prog_29_method_11_code 12 = .ok (.invokestatic 95, 3) := by decide +kernel
theorem d_J3_checkIndex_8e157_15 : decode prog_29_method_11_code 15 = .ok (.athrow, 1) := by decide +kernel
theorem d_J3_checkIndex_8e157_16 : decode prog_29_method_11_code 16 = .ok (.iload_n 0, 1) := by decide +kernel
theorem d_J3_checkIndex_8e157_17 : decode prog_29_method_11_code 17 = .ok (.ireturn, 1) := by decide +kernel
/-! TEXTS that are constants: length() and charAt() of them. -/
def slens : List Nat := [14, 25, 25, 3, 7, 3, 2, 2, 5]
def sbyt : List (List Int32) := [[110, 111, 32, 115, 117, 99, 104, 32, 111, 121, 115, 116, 101, 114], [110, 111, 116, 104, 105, 110, 103, 32, 115, 117, 99, 104, 32, 111, 102, 32, 97, 110, 32, 111, 121, 115, 116, 101, 114], [110, 111, 32, 115, 117, 99, 104, 32, 110, 117, 109, 98, 101, 114, 32, 111, 102, 32, 116, 104, 101, 32, 114, 111, 119], [110, 112, 114], [102, 118, 107, 119, 99, 112, 110], [60, 62, 61], [43, 45], [42, 47], [110, 107, 113, 102, 118]]
def slen (t : Nat) : Int32 := Int32.ofNat (slens.getD t 0)
def insb (i : Int32) (t : Nat) : Bool := inb i (slens.getD t 0)
def schr (t : Nat) (i : Int32) : Int32 := ((((sbyt.getD t []).getD i.toNatClampNeg 0) &&& 255).toUInt32 % 65536).toInt32
theorem slen_sh : ∀ t, t < 9 → slen t >>> ((0 : Int32) &&& 31) = slen t := by decide +kernel
theorem inb_nI {i : Int32} {n : Nat} (h : inb i n = true) (hn : n < 2 ^ 31) : ¬ i < 0 ∧ i < Int32.ofNat n := by
  have h2 := inb_lt h
  have h1 := inb_in h
  have h3 : ¬ i < 0 := fun q => h1 (Or.inl q)
  refine ⟨h3, ?_⟩
  obtain ⟨j, hj, rfl⟩ := nI_of h3
  rw [nI_clamp hj] at h2
  exact nI_lt h2 hn
section STRS
variable {p : Program} {l : Launch} {e : Env} {R : Room} {s : State} {m : MethodId} {args : Array Value} {below : List Frame} {meth : Method} {c : Code} {H : Heap} {locs : List Loc} {cells slots : Nat} {Q : State → Prop}
variable {pc nL : Nat} {ls : Array Slot} {rest st : List Value} {cc : ByteArray} {own : String} {G : gT} {χ σ χ' σ' : St} {lv : List (Nat × Value)}
theorem r_getO {o n d : String} {q idx : Nat} {v : Value} (X : FX p m c cc nL s args own G) (hE : va_OF o n d v q (gA G) s (gH G)) (h : HQ G χ σ H locs) (hlk : Cond.fieldLink own idx o n d ∈ WG) (hdg : decode cc pc = .ok (.getfield idx, 3)) (k : W p l e R s m args below meth c H locs cells slots Q (F0 m (pc + 3) ls (v :: rest))) : W p l e R s m args below meth c H locs cells slots Q (F0 m pc ls (.ref q :: rest)) := by
  obtain ⟨cf, kf, fi, f, cell, h1, h2, h3, h4, h5, h6⟩ := hE
  exact W.getf X.1 X.2.1 X.2.2.2.1 (X.2.2.2.2.1 _ hlk) h1 h2 (by rw [h.1.2.2.1 q (Array.getElem?_eq_some_iff.mp h3).1 h6]; exact h3) h4 (v := v) h5 rfl rfl hdg k
theorem r_aTb {t N : Nat} {i v : Int32} {f : List Int32} (X : FX p m c cc nL s args own G) (hT : va_T .byte t N (fun j => .int (f.getD j 0)) (gA G) s (gH G)) (h : HQ G χ σ H locs) (hin : inb i N = true) (hv : f.getD i.toNatClampNeg 0 = v) (hdg : decode cc pc = .ok (.baload, 1)) (k : W p l e R s m args below meth c H locs cells slots Q (F0 m (pc + 1) ls (.int v :: rest))) : W p l e R s m args below meth c H locs cells slots Q (F0 m pc ls (.int i :: .ref t :: rest)) := by
  obtain ⟨cell, h1, h2, h3, h4, h5, h6, h7⟩ := hT
  have hlt := inb_lt hin
  have hin2 := inb_in hin
  exact W.bald (v := .int v) X.1 X.2.1 (by rw [h.1.2.2.1 t (Array.getElem?_eq_some_iff.mp h1).1 h7]; exact h1) h2 h3 (fun q => q.elim (fun z => hin2 (Or.inl z)) (fun z => by omega)) (by rw [h6 _ hlt]; show some (Value.int (f.getD i.toNatClampNeg 0)) = _; rw [hv]) rfl rfl hdg k
theorem r_srecv {t : Nat} (X : FX p m c cc nL s args own G) (h : HQ G χ σ H locs) (ht : t < 9) : ∃ cell : Cell, H[gK G t]? = some cell ∧ cell.vm.isStatics = false ∧ s.vm.findClass "java/lang/String" = some cell.cls := by
  obtain ⟨cell, h1, h2, h3, h4⟩ := (X.2.2.2.2.2.2.2.2.2.2.2.2.2.2.1.1 t ht).1
  exact ⟨cell, by rw [h.1.2.2.1 _ (Array.getElem?_eq_some_iff.mp h1).1 h4]; exact h1, h2, h3⟩
theorem r_sS {t : Nat} (X : FX p m c cc nL s args own G) (ht : t < 9) : va_OF "java/lang/String" "coder" "B" (.int 0) (gK G t) (gA G) s (gH G) ∧ va_OF "java/lang/String" "value" "[B" (.ref (gV G t)) (gK G t) (gA G) s (gH G) ∧ va_T .byte (gV G t) (slens.getD t 0) (fun j => .int ((sbyt.getD t []).getD j 0)) (gA G) s (gH G) := (X.2.2.2.2.2.2.2.2.2.2.2.2.2.2.1.1 t ht).2
end STRS
theorem c_J0_coder {l : Launch} {G : gT} {χ σ : St} {t : Nat} (ht : t < 9) : Ct l G yJ0_coder_7d493 prog_22_method_152_code 1 (some .byte) 0 0 [.ref (gK G t)] χ σ (some (.int 0)) χ σ := by
  refine Ct.of (by decide) (Nat.le_of_ble_eq_true rfl) ?_
  intro p e s m args below meth c Q X hr hlk hQ
  have hx := X.1
  have hb := X.2.1
  intro H locs ls hw hl
  have hl : lv_has ls 1 [(0, .ref (gK G t))] := hl
  refine r_gets X X.2.2.2.2.2.2.2.2.2.2.1 hw wd_1121 d_J0_coder_7d493_0 ?_
  refine lv_if_eq (tgt := 13) hx hb d_J0_coder_7d493_3 (by decide) (fun hc => absurd hc (by decide)) (fun hc => ?_)
  refine lv_aload_n hx hb d_J0_coder_7d493_6 rfl (lv_at hl 0 rfl) ?_
  refine r_getO X (r_sS X ht).1 hw wd_1634 d_J0_coder_7d493_7 ?_
  refine lv_goto (tgt := 14) hx hb d_J0_coder_7d493_10 (by decide) ?_
  subst hQ
  exact r_zret X hr (by decide) hlk hw d_J0_coder_7d493_14
theorem c_J0_isLatin1 {l : Launch} {G : gT} {χ σ : St} {t : Nat} (ht : t < 9) : Ct l G yJ0_isLatin1_aae02 prog_22_method_154_code 1 (some .boolean) 0 0 [.ref (gK G t)] χ σ (some (.int 1)) χ σ := by
  refine Ct.of (by decide) (Nat.le_of_ble_eq_true rfl) ?_
  intro p e s m args below meth c Q X hr hlk hQ
  have hx := X.1
  have hb := X.2.1
  intro H locs ls hw hl
  have hl : lv_has ls 1 [(0, .ref (gK G t))] := hl
  refine r_gets X X.2.2.2.2.2.2.2.2.2.2.1 hw wd_1121 d_J0_isLatin1_aae02_0 ?_
  refine lv_if_eq (tgt := 17) hx hb d_J0_isLatin1_aae02_3 (by decide) (fun hc => absurd hc (by decide)) (fun hc => ?_)
  refine lv_aload_n hx hb d_J0_isLatin1_aae02_6 rfl (lv_at hl 0 rfl) ?_
  refine r_getO X (r_sS X ht).1 hw wd_1634 d_J0_isLatin1_aae02_7 ?_
  refine lv_if_ne (tgt := 17) hx hb d_J0_isLatin1_aae02_10 (by decide) (fun hc => absurd rfl hc) (fun hc => ?_)
  refine lv_iconst (v := (1 : Int32)) hx hb d_J0_isLatin1_aae02_13 (by decide) ?_
  refine lv_goto (tgt := 18) hx hb d_J0_isLatin1_aae02_14 (by decide) ?_
  subst hQ
  exact r_zret X hr nbz1 hlk hw d_J0_isLatin1_aae02_18
theorem c_J0_length {l : Launch} {G : gT} {χ σ : St} {t : Nat} (ht : t < 9) : Ct l G yJ0_length_8abf5 prog_22_method_54_code 1 (some .int) 1 20 [.ref (gK G t)] χ σ (some (.int (slen t))) χ σ := by
  refine Ct.of (by decide) (Nat.le_of_ble_eq_true rfl) ?_
  intro p e s m args below meth c Q X hr hlk hQ
  have hx := X.1
  have hb := X.2.1
  intro H locs ls hw hl
  have hl : lv_has ls 1 [(0, .ref (gK G t))] := hl
  refine lv_aload_n hx hb d_J0_length_8abf5_0 rfl (lv_at hl 0 rfl) ?_
  refine r_getO X (r_sS X ht).2.1 hw wd_1633 d_J0_length_8abf5_1 ?_
  refine r_aTn X (r_sS X ht).2.2 hw (v := slen t) rfl d_J0_length_8abf5_4 ?_
  refine lv_aload_n hx hb d_J0_length_8abf5_5 rfl (lv_at hl 0 rfl) ?_
  refine r_callV (As := []) (rest := [.int (slen t)]) (st' := [.int 0, .int (slen t)]) X hw hl mwJ0_coder_7d493 wd_1118 wd_1119 wd_1117 (c_J0_coder ht) (r_srecv X hw ht) rfl ⟨Nat.le_of_ble_eq_true rfl, Nat.le_of_ble_eq_true rfl⟩ ⟨Nat.le_refl _, Nat.le_refl _⟩ rfl rfl (Nat.le_of_ble_eq_true rfl) d_J0_length_8abf5_6 (fun H locs hw => ?_)
  refine lv_ishr hx hb d_J0_length_8abf5_9 ?_
  rw [slen_sh t ht]
  subst hQ
  exact r_iret X hr hlk hw d_J0_length_8abf5_10
theorem c_J3_checkIndex {l : Launch} {G : gT} {χ σ : St} {i n : Int32} {v : Value} (hv : v = .null ∨ ∃ a, v = .ref a) (h0 : ¬ i < 0) (h1 : i < n) : Ct l G yJ3_checkIndex_8e157 prog_29_method_11_code 3 (some .int) 0 0 [.int i, .int n, v] χ σ (some (.int i)) χ σ := by
  have hcat : v.category = 1 := by rcases hv with rfl | ⟨a, rfl⟩ <;> rfl
  refine Ct.of (by decide) (by rcases hv with rfl | ⟨a, rfl⟩ <;> exact Nat.le_of_ble_eq_true rfl) ?_
  intro p e s m args below meth c Q X hr hlk hQ
  have hx := X.1
  have hb := X.2.1
  intro H locs ls hw hl
  have hl : lv_has ls 3 [(0, .int i), (1, .int n), (2, v)] := hl
  refine lv_iload_n hx hb d_J3_checkIndex_8e157_0 rfl (lv_at hl 0 rfl) ?_
  refine lv_if_lt (tgt := 9) hx hb d_J3_checkIndex_8e157_1 (by decide) (fun hc => absurd hc h0) (fun hc => ?_)
  refine lv_iload_n hx hb d_J3_checkIndex_8e157_4 rfl (lv_at hl 0 rfl) ?_
  refine lv_iload_n hx hb d_J3_checkIndex_8e157_5 rfl (lv_at hl 1 rfl) ?_
  refine lv_icmp_lt (tgt := 16) hx hb d_J3_checkIndex_8e157_6 (by decide) (fun hc => ?_) (fun hc => absurd h1 hc)
  refine lv_iload_n hx hb d_J3_checkIndex_8e157_16 rfl (lv_at hl 0 rfl) ?_
  subst hQ
  exact r_iret X hr hlk hw d_J3_checkIndex_8e157_17
theorem c_J0_checkIndex {l : Launch} {G : gT} {χ σ : St} {i n : Int32} (h0 : ¬ i < 0) (h1 : i < n) : Ct l G yJ0_checkIndex_df160 prog_22_method_155_code 2 none 1 22 [.int i, .int n] χ σ none χ σ := by
  refine Ct.of (by decide) (Nat.le_of_ble_eq_true rfl) ?_
  intro p e s m args below meth c Q X hr hlk hQ
  have hx := X.1
  have hb := X.2.1
  intro H locs ls hw hl
  have hl : lv_has ls 2 [(0, .int i), (1, .int n)] := hl
  have go : ∀ v : Value, (v = .null ∨ ∃ a, v = .ref a) → va_Z "jdk/internal/util/Preconditions" "SIOOBE_FORMATTER" "Ljava/util/function/BiFunction;" v (gA G) s (gH G) → W p l e (rmk 1 22) s m args below meth c H locs 0 0 Q (F0 m 0 ls []) := by
    intro v hv hZ
    refine lv_iload_n hx hb d_J0_checkIndex_df160_0 rfl (lv_at hl 0 rfl) ?_
    refine lv_iload_n hx hb d_J0_checkIndex_df160_1 rfl (lv_at hl 1 rfl) ?_
    refine r_gets X hZ hw wd_1137 d_J0_checkIndex_df160_2 ?_
    refine r_callS (As := [.int i, .int n, v]) (rest := []) (st' := [.int i]) X hw hl mwJ3_checkIndex_8e157 wd_1140 wd_1139 (c_J3_checkIndex hv h0 h1) rfl ⟨Nat.le_of_ble_eq_true rfl, Nat.le_of_ble_eq_true rfl⟩ ⟨Nat.le_refl _, Nat.le_refl _⟩ rfl rfl (Nat.le_of_ble_eq_true rfl) d_J0_checkIndex_df160_5 (fun H locs hw => ?_)
    refine lv_pop hx hb d_J0_checkIndex_df160_8 rfl ?_
    subst hQ
    exact r_vret X hr hlk hw d_J0_checkIndex_df160_9
  rcases X.2.2.2.2.2.2.2.2.2.2.2.2.2.1 with hZ | ⟨t, hZ⟩
  · exact go _ (Or.inl rfl) hZ
  · exact go _ (Or.inr ⟨t, rfl⟩) hZ
theorem slens_lt : ∀ t, t < 9 → slens.getD t 0 < 2 ^ 31 := by decide +kernel
theorem c_J1_charAt {l : Launch} {G : gT} {χ σ : St} {t : Nat} {i : Int32} (ht : t < 9) (hi : insb i t = true) : Ct l G yJ1_charAt_3b067 prog_23_method_2_code 2 (some .char) 2 43 [.ref (gV G t), .int i] χ σ (some (.int (schr t i))) χ σ := by
  refine Ct.of (by decide) (Nat.le_of_ble_eq_true rfl) ?_
  intro p e s m args below meth c Q X hr hlk hQ
  have hx := X.1
  have hb := X.2.1
  intro H locs ls hw hl
  have hl : lv_has ls 2 [(0, .ref (gV G t)), (1, .int i)] := hl
  obtain ⟨g0, g1⟩ := inb_nI hi (slens_lt t ht)
  refine lv_iload_n hx hb d_J1_charAt_3b067_0 rfl (lv_at hl 1 rfl) ?_
  refine lv_aload_n hx hb d_J1_charAt_3b067_1 rfl (lv_at hl 0 rfl) ?_
  refine r_aTn X (r_sS X ht).2.2 hw (v := slen t) rfl d_J1_charAt_3b067_2 ?_
  refine r_callS (As := [.int i, .int (slen t)]) (rest := []) (st' := []) X hw hl mwJ0_checkIndex_df160 wd_1135 wd_1134 (c_J0_checkIndex g0 g1) rfl ⟨Nat.le_of_ble_eq_true rfl, Nat.le_of_ble_eq_true rfl⟩ ⟨Nat.le_refl _, Nat.le_refl _⟩ rfl rfl (Nat.le_of_ble_eq_true rfl) d_J1_charAt_3b067_3 (fun H locs hw => ?_)
  refine lv_aload_n hx hb d_J1_charAt_3b067_6 rfl (lv_at hl 0 rfl) ?_
  refine lv_iload_n hx hb d_J1_charAt_3b067_7 rfl (lv_at hl 1 rfl) ?_
  refine r_aTb X (r_sS X ht).2.2 hw hi rfl d_J1_charAt_3b067_8 ?_
  refine lv_sipush (v := (255 : Int32)) hx hb d_J1_charAt_3b067_9 (by decide) ?_
  refine lv_iand hx hb d_J1_charAt_3b067_12 ?_
  refine lv_i2c hx hb d_J1_charAt_3b067_13 rfl ?_
  subst hQ
  exact r_zret X hr (pk_nc _) hlk hw d_J1_charAt_3b067_14
theorem c_J0_charAt {l : Launch} {G : gT} {χ σ : St} {t : Nat} {i : Int32} (ht : t < 9) (hi : insb i t = true) : Ct l G yJ0_charAt_5068e prog_22_method_56_code 2 (some .char) 3 64 [.ref (gK G t), .int i] χ σ (some (.int (schr t i))) χ σ := by
  refine Ct.of (by decide) (Nat.le_of_ble_eq_true rfl) ?_
  intro p e s m args below meth c Q X hr hlk hQ
  have hx := X.1
  have hb := X.2.1
  intro H locs ls hw hl
  have hl : lv_has ls 2 [(0, .ref (gK G t)), (1, .int i)] := hl
  refine lv_aload_n hx hb d_J0_charAt_5068e_0 rfl (lv_at hl 0 rfl) ?_
  refine r_callV (As := []) (rest := []) (st' := [.int 1]) X hw hl mwJ0_isLatin1_aae02 wd_1128 wd_1129 wd_1127 (c_J0_isLatin1 ht) (r_srecv X hw ht) rfl ⟨Nat.le_of_ble_eq_true rfl, Nat.le_of_ble_eq_true rfl⟩ ⟨Nat.le_refl _, Nat.le_refl _⟩ rfl rfl (Nat.le_of_ble_eq_true rfl) d_J0_charAt_5068e_1 (fun H locs hw => ?_)
  refine lv_if_eq (tgt := 16) hx hb d_J0_charAt_5068e_4 (by decide) (fun hc => absurd hc (by decide)) (fun hc => ?_)
  refine lv_aload_n hx hb d_J0_charAt_5068e_7 rfl (lv_at hl 0 rfl) ?_
  refine r_getO X (r_sS X ht).2.1 hw wd_1633 d_J0_charAt_5068e_8 ?_
  refine lv_iload_n hx hb d_J0_charAt_5068e_11 rfl (lv_at hl 1 rfl) ?_
  refine r_callS (As := [.ref (gV G t), .int i]) (rest := []) (st' := [.int (schr t i)]) X hw hl mwJ1_charAt_3b067 wd_1132 wd_1131 (c_J1_charAt ht hi) rfl ⟨Nat.le_of_ble_eq_true rfl, Nat.le_of_ble_eq_true rfl⟩ ⟨Nat.le_refl _, Nat.le_refl _⟩ rfl rfl (Nat.le_of_ble_eq_true rfl) d_J0_charAt_5068e_12 (fun H locs hw => ?_)
  subst hQ
  exact r_zret X hr (pk_nc _) hlk hw d_J0_charAt_5068e_15
section STRW
variable {p : Program} {l : Launch} {e : Env} {R : Room} {s : State} {m : MethodId} {args : Array Value} {below : List Frame} {meth : Method} {c : Code} {H : Heap} {locs : List Loc} {cells slots : Nat} {Q : State → Prop}
variable {pc nL : Nat} {ls : Array Slot} {rest st : List Value} {cc : ByteArray} {own : String} {G : gT} {χ σ χ' σ' : St} {lv : List (Nat × Value)}
theorem r_slen {t idx : Nat} (X : FX p m c cc nL s args own G) (h : HQ G χ σ H locs) (hl : lv_has ls nL lv) (ht : t < 9) (hlk : Cond.methodLink own idx yJ0_length_8abf5 ∈ WG) (hR : 2 ≤ R.frames ∧ 40 ≤ R.locals) (hf : cells ≤ R.cells ∧ slots ≤ R.slots) (hW : (rest.map fun v => v.category).sum ≤ 8) (hdg : decode cc pc = .ok (.invokevirtual idx, 3))
    (k : ∀ (H1 : Heap) (locs1 : List Loc), HQ G χ σ H1 locs1 → W p l e R s m args below meth c H1 locs1 cells slots Q (F0 m (pc + 3) ls (.int (slen t) :: rest))) : W p l e R s m args below meth c H locs cells slots Q (F0 m pc ls (.ref (gK G t) :: rest)) :=
  r_callV (As := []) (rest := rest) (st' := .int (slen t) :: rest) X h hl mwJ0_length_8abf5 wd_1114 wd_1115 hlk (c_J0_length ht) (r_srecv X h ht) rfl ⟨hR.1, hR.2⟩ hf rfl rfl hW hdg k
theorem r_schr {t idx : Nat} {i : Int32} (X : FX p m c cc nL s args own G) (h : HQ G χ σ H locs) (hl : lv_has ls nL lv) (ht : t < 9) (hi : insb i t = true) (hlk : Cond.methodLink own idx yJ0_charAt_5068e ∈ WG) (hR : 4 ≤ R.frames ∧ 85 ≤ R.locals) (hf : cells ≤ R.cells ∧ slots ≤ R.slots) (hW : (rest.map fun v => v.category).sum ≤ 8) (hdg : decode cc pc = .ok (.invokevirtual idx, 3))
    (k : ∀ (H1 : Heap) (locs1 : List Loc), HQ G χ σ H1 locs1 → W p l e R s m args below meth c H1 locs1 cells slots Q (F0 m (pc + 3) ls (.int (schr t i) :: rest))) : W p l e R s m args below meth c H locs cells slots Q (F0 m pc ls (.int i :: .ref (gK G t) :: rest)) :=
  r_callV (As := [.int i]) (rest := rest) (st' := .int (schr t i) :: rest) X h hl mwJ0_charAt_5068e wd_1124 wd_1125 hlk (c_J0_charAt ht hi) (r_srecv X h ht) rfl ⟨hR.1, hR.2⟩ hf rfl rfl hW hdg k
theorem r_ldcS {tx : String} {idx q : Nat} (X : FX p m c cc nL s args own G) (hZ : vk_R own idx tx q s) (hdg : decode cc pc = .ok (.ldc_w idx, 3))
    (k : W p l e R s m args below meth c H locs cells slots Q (F0 m (pc + 3) ls (.ref q :: rest))) : W p l e R s m args below meth c H locs cells slots Q (F0 m pc ls rest) := by
  intro T hT Y
  obtain ⟨t, a1, b1⟩ := k T hT Y
  exact ⟨t, Y.ldcStringW X.1 X.2.2.2.1 (text := tx) (a := q) hZ.1 hZ.2 (g := F0 m pc ls rest) rfl (by rw [X.2.1]; exact hdg) t a1, b1⟩
end STRW
