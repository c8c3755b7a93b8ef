/-! The two laws change places: a reference is put into a field of the main object. -/
section PUTR
variable {p : Program} {l : Launch} {e : Env} {R : Room} {s : State} {m : MethodId} {args : Array Value} {below : List Frame} {meth : Method} {c : Code} {H : Heap} {locs : List Loc} {cells slots : Nat} {Q : State → Prop}
variable {pc nL : Nat} {ls : Array Slot} {rest : List Value} {cc : ByteArray} {own : String} {G : gT} {F A : Nat → Nat → Int32} {L : Nat → Nat → Int64} {w w' : Nat × Nat} {χ σ : St}
theorem ev_main {j : Nat} : eV G F w 0 j = .ref (ga G (rt w 0 j)) := by
  unfold eV
  rw [if_neg]
  show ¬ (pI (pk 0) j = true)
  rw [show pk 0 = 7 from rfl]
  unfold pI
  simp
theorem rt_oth {p j : Nat} (h : p ≠ 0) : rt w p j = rt w' p j := by
  unfold rt
  rw [if_neg h, if_neg h]
theorem ee_w {q : Nat} (hq : q ≠ 0) : eE G F A L w q = eE G F A L w' q := by
  have h1 : eV G F w q = eV G F w' q := by
    funext i
    unfold eV
    rw [rt_oth (w := w) (w' := w') hq]
  unfold eE
  rw [h1]
theorem gr_putr (hf0 : FW G) (X : FX p m c cc nL s args own G) (h : GQ G F A L w H locs) {j idx q : Nat} (hj : j < 9) (hw : ∀ i, i < 9 → rt w' 0 i = if i = j then q else rt w 0 i) (hlk : Cond.fieldLink own idx "OysterBeds" (TX11 j).2.1 (TX11 j).2.2.1 ∈ WG) (hf : (TX11 j).2.2.2 = false) (hty : parseFieldDescriptor (TX11 j).2.2.1 = some (.object "OysterBeds$Law")) (hdg : decode cc pc = .ok (.putfield idx, 3))
    (k : ∀ (H1 : Heap) (locs1 : List Loc), GQ G F A L w' H1 locs1 → W p l e R s m args below meth c H1 locs1 cells slots Q (F0 m (pc + 3) ls rest)) : W p l e R s m args below meth c H locs cells slots Q (F0 m pc ls (.ref (ga G q) :: .ref (ga G 0) :: rest)) := by
  obtain ⟨hx, hb, hml, hown, hts, hK⟩ := X
  obtain ⟨q0, hq0, hq⟩ := gw_at (G := G) (F := F) (A := A) (L := L) (w := w) (o_0 hf0).1
  rw [ee_obj (o_0 hf0) (by decide)] at hq
  refine va_put (D := gD G) (C := RX11) (T := TX11) (N := 9) (v := .ref (ga G q)) (ty := .object "OysterBeds$Law") hx hb hts ct7.2.1 tyX11 ct7.2.2.1 ct7.2.2.2.1 hown hK.1 h.1.1 h.1.2.1 h.s q0 hq ct7.1 j hj (hts _ hlk) (fun x hx => by rw [ct7.2.2.2.2.1 j hj] at hx; exact hx) hf hty rfl rfl (by rw [List.length_map, List.length_range]; exact hj) hdg (fun H1 locs1 a1 a2 a3 => ?_)
  have e1 : ((List.range 9).map (eV G F w 0)).set j (.ref (ga G q)) = (List.range 9).map (eV G F w' 0) := by
    apply List.ext_getElem?
    intro i
    by_cases hi : i = j
    · subst hi
      rw [List.getElem?_set_self (by rw [List.length_map, List.length_range]; exact hj), List.getElem?_map, List.getElem?_range hj]
      show some (Value.ref (ga G q)) = some (eV G F w' 0 i)
      rw [ev_main, hw i hj, if_pos rfl]
    · rw [List.getElem?_set_ne (Ne.symm hi), List.getElem?_map, List.getElem?_map]
      by_cases h9 : i < 9
      · rw [List.getElem?_range h9]
        show some (eV G F w 0 i) = some (eV G F w' 0 i)
        rw [ev_main, ev_main, hw i h9, if_neg hi]
      · rw [List.getElem?_eq_none (by rw [List.length_range]; omega)]
        rfl
  have e2 : (gW G F A L w).set q0 (ga G 0, .inr (7, (List.range 9).map (eV G F w' 0))) = gW G F A L w' := by
    rw [← ee_obj (A := A) (L := L) (o_0 hf0) (by decide)]
    exact pl_set (gp_nd h.1.2.1) (g := fun p => (ga G p, eE G F A L w p)) (g' := fun p => (ga G p, eE G F A L w' p)) hq0 (fun q hq => by show (ga G q, _) = (ga G q, _); rw [ee_w hq])
  rw [e1, e2] at a1 a2
  exact k H1 locs1 (GQ.of a1 a2 a3)
theorem r_putr7 {idx q : Nat} (hf : FW G) (X : FX p m c cc nL s args own G) (h : HQ G χ σ H locs) (hlk : Cond.fieldLink own idx "OysterBeds" "rule" "LOysterBeds$Law;" ∈ WG) (hdg : decode cc pc = .ok (.putfield idx, 3))
    (k : ∀ (H1 : Heap) (locs1 : List Loc), HQ G (sW χ (q, (cW χ).2)) σ H1 locs1 → W p l e R s m args below meth c H1 locs1 cells slots Q (F0 m (pc + 3) ls rest)) : W p l e R s m args below meth c H locs cells slots Q (F0 m pc ls (.ref (ga G q) :: .ref (ga G 0) :: rest)) :=
  gr_putr (j := 7) (w' := (q, (cW χ).2)) hf X h (by decide) (fun i hi => by unfold rt; rw [if_pos rfl, if_pos rfl]; rcases i with _ | _ | _ | _ | _ | _ | _ | _ | _ | i <;> first | rfl | omega) hlk rfl (by decide +kernel) hdg (fun H1 locs1 h1 => k H1 locs1 h1)
theorem r_putr8 {idx q : Nat} (hf : FW G) (X : FX p m c cc nL s args own G) (h : HQ G χ σ H locs) (hlk : Cond.fieldLink own idx "OysterBeds" "draft" "LOysterBeds$Law;" ∈ WG) (hdg : decode cc pc = .ok (.putfield idx, 3))
    (k : ∀ (H1 : Heap) (locs1 : List Loc), HQ G (sW χ ((cW χ).1, q)) σ H1 locs1 → W p l e R s m args below meth c H1 locs1 cells slots Q (F0 m (pc + 3) ls rest)) : W p l e R s m args below meth c H locs cells slots Q (F0 m pc ls (.ref (ga G q) :: .ref (ga G 0) :: rest)) := by
  exact gr_putr (j := 8) (w' := ((cW χ).1, q)) hf X h (by decide) (fun i hi => by unfold rt; rw [if_pos rfl, if_pos rfl]; rcases i with _ | _ | _ | _ | _ | _ | _ | _ | _ | i <;> first | rfl | omega) hlk rfl (by decide +kernel) hdg (fun H1 locs1 h1 => k H1 locs1 h1)
end PUTR
abbrev yX11_rule : MethodName := ⟨"OysterBeds", "rule", "()I"⟩
theorem mwX11_rule : MW yX11_rule prog_1_method_5_code 3 (some .int) 0 := ⟨wd_352, wd_1, by decide +kernel⟩
theorem d_X11_rule_0 : decode prog_1_method_5_code 0 = .ok (.aload_n 0, 1) := by decide +kernel
theorem d_X11_rule_1 : decode prog_1_method_5_code 1 = .ok (.getfield 61, 3) := by decide +kernel
theorem d_X11_rule_4 : decode prog_1_method_5_code 4 = .ok (.aload_n 0, 1) := by decide +kernel
theorem d_X11_rule_5 : decode prog_1_method_5_code 5 = .ok (.getfield 12, 3) := by decide +kernel
theorem d_X11_rule_8 : decode prog_1_method_5_code 8 = .ok (.invokevirtual 104, 3) := by decide +kernel
theorem d_X11_rule_11 : decode prog_1_method_5_code 11 = .ok (.istore_n 1, 1) := by decide +kernel
theorem d_X11_rule_12 : decode prog_1_method_5_code 12 = .ok (.aload_n 0, 1) := by decide +kernel
theorem d_X11_rule_13 : decode prog_1_method_5_code 13 = .ok (.getfield 12, 3) := by decide +kernel
theorem d_X11_rule_16 : decode prog_1_method_5_code 16 = .ok (.iconst 0, 1) := by decide +kernel
theorem d_X11_rule_17 : decode prog_1_method_5_code 17 = .ok (.invokevirtual 72, 3) := by decide +kernel
theorem d_X11_rule_20 : decode prog_1_method_5_code 20 = .ok (.pop, 1) := by decide +kernel
theorem d_X11_rule_21 : decode prog_1_method_5_code 21 = .ok (.iload_n 1, 1) := by decide +kernel
theorem d_X11_rule_22 : decode prog_1_method_5_code 22 = .ok (.iconst (-1), 1) := by decide +kernel
theorem d_X11_rule_23 : decode prog_1_method_5_code 23 = .ok (.if_icmp .eq 7, 3) := by decide +kernel
theorem d_X11_rule_26 : decode prog_1_method_5_code 26 = .ok (.iconst (-1), 1) := by decide +kernel
theorem d_X11_rule_27 : decode prog_1_method_5_code 27 = .ok (.iload_n 1, 1) := by decide +kernel
theorem d_X11_rule_28 : decode prog_1_method_5_code 28 = .ok (.isub, 1) := by decide +kernel
theorem d_X11_rule_29 : decode prog_1_method_5_code 29 = .ok (.ireturn, 1) := by decide +kernel
theorem d_X11_rule_30 : decode prog_1_method_5_code 30 = .ok (.aload_n 0, 1) := by decide +kernel
theorem d_X11_rule_31 : decode prog_1_method_5_code 31 = .ok (.getfield 57, 3) := by decide +kernel
theorem d_X11_rule_34 : decode prog_1_method_5_code 34 = .ok (.astore_n 2, 1) := by decide +kernel
theorem d_X11_rule_35 : decode prog_1_method_5_code 35 = .ok (.aload_n 0, 1) := by decide +kernel
theorem d_X11_rule_36 : decode prog_1_method_5_code 36 = .ok (.aload_n 0, 1) := by decide +kernel
theorem d_X11_rule_37 : decode prog_1_method_5_code 37 = .ok (.getfield 61, 3) := by decide +kernel
theorem d_X11_rule_40 : decode prog_1_method_5_code 40 = .ok (.putfield 57, 3) := by decide +kernel
theorem d_X11_rule_43 : decode prog_1_method_5_code 43 = .ok (.aload_n 0, 1) := by decide +kernel
theorem d_X11_rule_44 : decode prog_1_method_5_code 44 = .ok (.aload_n 2, 1) := by decide +kernel
theorem d_X11_rule_45 : decode prog_1_method_5_code 45 = .ok (.putfield 61, 3) := by decide +kernel
theorem d_X11_rule_48 : decode prog_1_method_5_code 48 = .ok (.iconst 0, 1) := by decide +kernel
theorem d_X11_rule_49 : decode prog_1_method_5_code 49 = .ok (.ireturn, 1) := by decide +kernel
def f_X11_rule (χ : St) : Option (Int32 × St) := gd (isLaw (cW χ).2) ((f_X5_read χ (cW χ).2).bind (fun q2 => (f_X8_cutTo q2.2 (0 : Int32)).bind (fun q4 => (if q2.1 = (-1 : Int32) then gd (isLaw (cW q4.2).1) (gd (isLaw (cW q4.2).2) (some ((0 : Int32), (sW (sW q4.2 ((cW q4.2).2, (cW q4.2).2)) ((cW (sW q4.2 ((cW q4.2).2, (cW q4.2).2))).1, (cW q4.2).1))))) else some (((-1 : Int32) - q2.1), q4.2)))))
theorem c_X11_rule {l : Launch} {G : gT} {χ σ : St} (hf : FW G) {q : Int32 × St} (h : f_X11_rule χ = some q) : Ct l G yX11_rule prog_1_method_5_code 3 (some .int) 6 130 [.ref (ga G 0)] χ σ (some (.int q.1)) q.2 σ := by
  refine Ct.of (by decide) (Nat.le_of_ble_eq_true rfl) ?_
  intro p e s m args below meth c Q X hr hlk hQ
  have hx := X.1
  have hb := X.2.1
  intro H locs ls hw hl
  have hl : lv_has ls 3 [(0, .ref (ga G 0))] := hl
  unfold f_X11_rule at h
  refine lv_aload_n hx hb d_X11_rule_0 rfl (lv_at hl 0 rfl) ?_
  obtain ⟨hw1, h⟩ := gd_some h
  refine r_getr (j := 8) X hw ct7 (o_0 hf) rfl (Nat.le_of_ble_eq_true rfl) (q := (cW χ).2) rfl wd_272 d_X11_rule_1 ?_
  refine lv_aload_n hx hb d_X11_rule_4 rfl (lv_at hl 0 rfl) ?_
  refine r_getr (j := 0) X hw ct7 (o_0 hf) rfl (Nat.le_of_ble_eq_true rfl) (q := 1) rfl wd_264 d_X11_rule_5 ?_
  obtain ⟨q2, e3, h⟩ := bd_some h
  refine r_callV (As := [.ref (ga G 1)]) (rest := []) (st' := [.int q2.1]) X hw hl mwX5_read wd_354 wd_355 wd_353 (c_X5_read hf (LW.of hf hw1) e3) (r_recv X hw ct2 (law_at (LW.of hf hw1)).1) rfl ⟨Nat.le_of_ble_eq_true rfl, Nat.le_of_ble_eq_true rfl⟩ ⟨Nat.le_refl _, Nat.le_refl _⟩ rfl rfl (Nat.le_of_ble_eq_true rfl) d_X11_rule_8 (fun H locs hw => ?_)
  refine lv_istore_n (lv' := [(1, .int q2.1), (0, .ref (ga G 0))]) hx hb d_X11_rule_11 rfl hl (Nat.le_of_ble_eq_true rfl) rfl (fun ls hl => ?_)
  refine lv_aload_n hx hb d_X11_rule_12 rfl (lv_at hl 1 rfl) ?_
  refine r_getr (j := 0) X hw ct7 (o_0 hf) rfl (Nat.le_of_ble_eq_true rfl) (q := 1) rfl wd_264 d_X11_rule_13 ?_
  refine lv_iconst (v := (0 : Int32)) hx hb d_X11_rule_16 (by decide) ?_
  obtain ⟨q4, e5, h⟩ := bd_some h
  refine r_callV (As := [.int (0 : Int32)]) (rest := []) (st' := [.int q4.1]) X hw hl mwX8_cutTo wd_305 wd_306 wd_304 (c_X8_cutTo hf e5) (r_recv X hw ct5 (o_1 hf)) rfl ⟨Nat.le_of_ble_eq_true rfl, Nat.le_of_ble_eq_true rfl⟩ ⟨Nat.le_refl _, Nat.le_refl _⟩ rfl rfl (Nat.le_of_ble_eq_true rfl) d_X11_rule_17 (fun H locs hw => ?_)
  refine lv_pop hx hb d_X11_rule_20 rfl ?_
  refine lv_iload_n hx hb d_X11_rule_21 rfl (lv_at hl 0 rfl) ?_
  refine lv_iconst (v := (-1 : Int32)) hx hb d_X11_rule_22 (by decide) ?_
  refine lv_icmp_eq (tgt := 30) hx hb d_X11_rule_23 (by decide) (fun hc => ?_) (fun hc => ?_)
  · have h := ite_t h hc
    refine lv_aload_n hx hb d_X11_rule_30 rfl (lv_at hl 1 rfl) ?_
    obtain ⟨hw6, h⟩ := gd_some h
    refine r_getr (j := 7) X hw ct7 (o_0 hf) rfl (Nat.le_of_ble_eq_true rfl) (q := (cW q4.2).1) rfl wd_271 d_X11_rule_31 ?_
    refine lv_astore_n (lv' := [(2, .ref (ga G (cW q4.2).1)), (1, .int q2.1), (0, .ref (ga G 0))]) hx hb d_X11_rule_34 rfl hl (Nat.le_of_ble_eq_true rfl) rfl (fun ls hl => ?_)
    refine lv_aload_n hx hb d_X11_rule_35 rfl (lv_at hl 2 rfl) ?_
    refine lv_aload_n hx hb d_X11_rule_36 rfl (lv_at hl 2 rfl) ?_
    obtain ⟨hw7, h⟩ := gd_some h
    refine r_getr (j := 8) X hw ct7 (o_0 hf) rfl (Nat.le_of_ble_eq_true rfl) (q := (cW q4.2).2) rfl wd_272 d_X11_rule_37 ?_
    refine r_putr7 hf X hw wd_271 d_X11_rule_40 (fun H locs hw => ?_)
    refine lv_aload_n hx hb d_X11_rule_43 rfl (lv_at hl 2 rfl) ?_
    refine lv_aload_n hx hb d_X11_rule_44 rfl (lv_at hl 0 rfl) ?_
    refine r_putr8 hf X hw wd_272 d_X11_rule_45 (fun H locs hw => ?_)
    refine lv_iconst (v := (0 : Int32)) hx hb d_X11_rule_48 (by decide) ?_
    obtain rfl := Option.some.inj h
    subst hQ
    exact r_iret X hr hlk hw d_X11_rule_49
  · have h := ite_f h hc
    refine lv_iconst (v := (-1 : Int32)) hx hb d_X11_rule_26 (by decide) ?_
    refine lv_iload_n hx hb d_X11_rule_27 rfl (lv_at hl 0 rfl) ?_
    refine lv_isub hx hb d_X11_rule_28 ?_
    obtain rfl := Option.some.inj h
    subst hQ
    exact r_iret X hr hlk hw d_X11_rule_29
