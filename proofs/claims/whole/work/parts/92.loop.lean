/-! THE LAW'S LOOP AND ITS START -/
def AllOk (Rel : St → St → Prop) : Prop := ok_0 Rel ∧ ok_1 Rel ∧ ok_2 Rel ∧ ok_3 Rel ∧ ok_4 Rel ∧ ok_5 Rel ∧ ok_6 Rel ∧ ok_7 Rel ∧ ok_8 Rel ∧ ok_9 Rel ∧ ok_10 Rel ∧ ok_11 Rel ∧ ok_12 Rel ∧ ok_13 Rel ∧ ok_14 Rel ∧ ok_15 Rel ∧ ok_16 Rel ∧ ok_17 Rel ∧ ok_18 Rel ∧ ok_19 Rel ∧ ok_20 Rel ∧ ok_21 Rel ∧ ok_22 Rel ∧ ok_23 Rel ∧ ok_24 Rel ∧ ok_25 Rel ∧ ok_26 Rel ∧ ok_27 Rel ∧ ok_28 Rel ∧ ok_29 Rel ∧ ok_30 Rel ∧ ok_31 Rel ∧ ok_32 Rel ∧ ok_33 Rel ∧ ok_34 Rel ∧ ok_35 Rel ∧ ok_36 Rel ∧ ok_37 Rel ∧ ok_38 Rel ∧ ok_39 Rel ∧ ok_40 Rel ∧ ok_41 Rel ∧ ok_42 Rel ∧ ok_43 Rel ∧ ok_44 Rel ∧ ok_45 Rel ∧ ok_46 Rel ∧ ok_47 Rel ∧ ok_48 Rel ∧ ok_49 Rel ∧ ok_50 Rel ∧ ok_51 Rel
theorem l_room {L i : Nat} (hL : L ≤ 3072) (hi : i < 2 ^ 31) (h : ¬ (nI L - 6 < nI i)) : i + 6 ≤ L := by
  by_cases h6 : 6 ≤ L
  · have e : nI L - 6 = nI (L - 6) := by
      have h1 : nI (L - 6) + nI 6 = nI L := by rw [nI_add]; congr 1; omega
      have h2 : nI 6 = 6 := by decide
      rw [← h1, h2]
      exact Int32.add_sub_cancel _ _
    rw [e, nI_ltI (by omega) hi] at h
    omega
  · exfalso
    apply h
    have h0 : (nI L - 6).toInt < 0 := by
      have hk : ∀ k, k < 6 → (nI k - 6).toInt < 0 := by decide
      exact hk L (by omega)
    have h1 := nI_toInt hi
    rw [Int32.lt_iff_toInt_lt, h1]
    omega
section LLOOP
variable {p : Program} {l : Launch} {e : Env} {s : State} {m : MethodId} {below : List Frame} {meth : Method} {c : Code} {b L : Nat} {xs : Nat → Int32} {G : gT} {Rel : St → St → Prop}
theorem l_end (C : LC p l s m meth c b L xs G) {cells slots i : Nat} {χ σ : St} (hc : cells ≤ 601024 ∧ slots ≤ 7293034) : LAt p l e s m below meth c b G cells slots 1667 i χ σ := by
  intro H locs ls hw hl
  have hx := C.1.1
  have hb := C.1.2.1
  refine lv_iconst (v := (1 : Int32)) hx hb dl_1667 (by decide) ?_
  refine va_forget (fun q hq => ?_) (W.widen hc.1 hc.2 (lw_ret hx hb C.2.2.2.2.1 C.2.2.2.1 dl_1668))
  have h1 := (C.2.2.2.2.2.2.2.1.2 q.base).mp (hw.2 q hq)
  rw [C.2.2.2.2.2.2.2.2] at h1
  exact h1
set_option maxHeartbeats 8000000 in
theorem law_loop (C : LC p l s m meth c b L xs G) (hok : AllOk Rel) (hout : ∀ χ σ x, Rel χ σ → Rel (sL χ 26 0 x) σ) : ∀ (n i : Nat) (χ σ : St), Rel χ σ → i ≤ L → L < i + n → LAt p l e s m below meth c b G (300 + i) (5000 + i) 23 i χ σ := by
  intro n
  induction n with
  | zero => intro i χ σ _ h1 h2; omega
  | succ n ih =>
    intro i χ σ hR hiL hn H locs ls hw hl
    have hx := C.1.1
    have hb := C.1.2.1
    have hL : L ≤ 3072 := C.2.2.2.2.2.1
    refine lv_iload hx hb dl_23 (lv_at hl 4 rfl) ?_
    refine lv_aload_n hx hb dl_25 rfl (lv_at hl 0 rfl) ?_
    refine l_len C hw dl_26 ?_
    refine lv_bipush (v := (6 : Int32)) hx hb dl_27 (by decide) ?_
    refine lv_isub hx hb dl_29 ?_
    refine lv_icmp_gt (tgt := 1667) hx hb dl_30 (by decide) (fun hc => l_end C (i := i) (by omega) _ _ _ hw hl) (fun hc => ?_)
    have hi : i + 6 ≤ L := l_room hL (by omega) hc
    have hcs : (300 + i) + 1 ≤ 601024 ∧ (5000 + i) + 6 ≤ 7293034 := by omega
    have kk : ∀ χ1 σ1, Rel χ1 σ1 → LAt p l e s m below meth c b G (300 + i + 1) (5000 + i + 6) 1661 i χ1 σ1 := by
      intro χ1 σ1 hR1 H locs ls hw hl
      refine lv_iinc (v := nI (i + 6)) (k := 4) (lv' := [(4, .int (nI (i + 6))), (0, .ref b), (1, .ref (ga G 0)), (2, .ref (ga G 300)), (3, .ref (ga G 26))]) hx hb dl_1661 hl rfl (by rw [← nI_add]; rfl) (Nat.le_of_ble_eq_true rfl) rfl (fun ls hl => ?_)
      refine lv_goto (tgt := 23) hx hb dl_1664 (by decide) ?_
      exact W.widen (by omega) (by omega) (ih (i + 6) χ1 σ1 hR1 hi (by omega) _ _ _ hw (lv_sub hl [1, 2, 3, 4, 0] rfl))
    refine lv_aload_n hx hb dl_33 rfl (lv_at hl 0 rfl) ?_
    refine lv_iload hx hb dl_34 (lv_at hl 4 rfl) ?_
    refine l_ld0 C hw hi dl_36 ?_
    refine lv_bipush (v := (63 : Int32)) hx hb dl_37 (by decide) ?_
    refine lv_iand hx hb dl_39 ?_
    obtain ⟨h0, h1, h2, h3, h4, h5, h6, h7, h8, h9, h10, h11, h12, h13, h14, h15, h16, h17, h18, h19, h20, h21, h22, h23, h24, h25, h26, h27, h28, h29, h30, h31, h32, h33, h34, h35, h36, h37, h38, h39, h40, h41, h42, h43, h44, h45, h46, h47, h48, h49, h50, h51⟩ := hok
    generalize xs i &&& 63 = x
    by_cases hc0 : x = (0 : Int32)
    · exact lv_tableIn (tgt := 264) hx hb dl_40 (by rw [hc0]; decide) (by rw [hc0]; decide) (by rw [hc0]; rfl) (by decide) (l_case_0 C hi hcs h0 hR kk _ _ _ hw hl)
    by_cases hc1 : x = (1 : Int32)
    · exact lv_tableIn (tgt := 289) hx hb dl_40 (by rw [hc1]; decide) (by rw [hc1]; decide) (by rw [hc1]; rfl) (by decide) (l_case_1 C hi hcs h1 hR kk _ _ _ hw hl)
    by_cases hc2 : x = (2 : Int32)
    · exact lv_tableIn (tgt := 314) hx hb dl_40 (by rw [hc2]; decide) (by rw [hc2]; decide) (by rw [hc2]; rfl) (by decide) (l_case_2 C hi hcs h2 hR kk _ _ _ hw hl)
    by_cases hc3 : x = (3 : Int32)
    · exact lv_tableIn (tgt := 327) hx hb dl_40 (by rw [hc3]; decide) (by rw [hc3]; decide) (by rw [hc3]; rfl) (by decide) (l_case_3 C hi hcs h3 hR kk _ _ _ hw hl)
    by_cases hc4 : x = (4 : Int32)
    · exact lv_tableIn (tgt := 340) hx hb dl_40 (by rw [hc4]; decide) (by rw [hc4]; decide) (by rw [hc4]; rfl) (by decide) (l_case_4 C hi hcs hout h4 hR kk _ _ _ hw hl)
    by_cases hc5 : x = (5 : Int32)
    · exact lv_tableIn (tgt := 408) hx hb dl_40 (by rw [hc5]; decide) (by rw [hc5]; decide) (by rw [hc5]; rfl) (by decide) (l_case_5 C hi hcs h5 hR kk _ _ _ hw hl)
    by_cases hc6 : x = (6 : Int32)
    · exact lv_tableIn (tgt := 469) hx hb dl_40 (by rw [hc6]; decide) (by rw [hc6]; decide) (by rw [hc6]; rfl) (by decide) (l_case_6 C hi hcs h6 hR kk _ _ _ hw hl)
    by_cases hc7 : x = (7 : Int32)
    · exact lv_tableIn (tgt := 506) hx hb dl_40 (by rw [hc7]; decide) (by rw [hc7]; decide) (by rw [hc7]; rfl) (by decide) (l_case_7 C hi hcs h7 hR kk _ _ _ hw hl)
    by_cases hc8 : x = (8 : Int32)
    · exact lv_tableIn (tgt := 531) hx hb dl_40 (by rw [hc8]; decide) (by rw [hc8]; decide) (by rw [hc8]; rfl) (by decide) (l_case_8 C hi hcs h8 hR kk _ _ _ hw hl)
    by_cases hc9 : x = (9 : Int32)
    · exact lv_tableIn (tgt := 568) hx hb dl_40 (by rw [hc9]; decide) (by rw [hc9]; decide) (by rw [hc9]; rfl) (by decide) (l_case_9 C hi hcs h9 hR kk _ _ _ hw hl)
    by_cases hc10 : x = (10 : Int32)
    · exact lv_tableIn (tgt := 605) hx hb dl_40 (by rw [hc10]; decide) (by rw [hc10]; decide) (by rw [hc10]; rfl) (by decide) (l_case_10 C hi hcs h10 hR kk _ _ _ hw hl)
    by_cases hc11 : x = (11 : Int32)
    · exact lv_tableIn (tgt := 630) hx hb dl_40 (by rw [hc11]; decide) (by rw [hc11]; decide) (by rw [hc11]; rfl) (by decide) (l_case_11 C hi hcs h11 hR kk _ _ _ hw hl)
    by_cases hc12 : x = (12 : Int32)
    · exact lv_tableIn (tgt := 643) hx hb dl_40 (by rw [hc12]; decide) (by rw [hc12]; decide) (by rw [hc12]; rfl) (by decide) (l_case_12 C hi hcs h12 hR kk _ _ _ hw hl)
    by_cases hc13 : x = (13 : Int32)
    · exact lv_tableIn (tgt := 656) hx hb dl_40 (by rw [hc13]; decide) (by rw [hc13]; decide) (by rw [hc13]; rfl) (by decide) (l_case_13 C hi hcs h13 hR kk _ _ _ hw hl)
    by_cases hc14 : x = (14 : Int32)
    · exact lv_tableIn (tgt := 693) hx hb dl_40 (by rw [hc14]; decide) (by rw [hc14]; decide) (by rw [hc14]; rfl) (by decide) (l_case_14 C hi hcs h14 hR kk _ _ _ hw hl)
    by_cases hc15 : x = (15 : Int32)
    · exact lv_tableIn (tgt := 730) hx hb dl_40 (by rw [hc15]; decide) (by rw [hc15]; decide) (by rw [hc15]; rfl) (by decide) (l_case_15 C hi hcs h15 hR kk _ _ _ hw hl)
    by_cases hc16 : x = (16 : Int32)
    · exact lv_tableIn (tgt := 743) hx hb dl_40 (by rw [hc16]; decide) (by rw [hc16]; decide) (by rw [hc16]; rfl) (by decide) (l_case_16 C hi hcs h16 hR kk _ _ _ hw hl)
    by_cases hc17 : x = (17 : Int32)
    · exact lv_tableIn (tgt := 780) hx hb dl_40 (by rw [hc17]; decide) (by rw [hc17]; decide) (by rw [hc17]; rfl) (by decide) (l_case_17 C hi hcs h17 hR kk _ _ _ hw hl)
    by_cases hc18 : x = (18 : Int32)
    · exact lv_tableIn (tgt := 793) hx hb dl_40 (by rw [hc18]; decide) (by rw [hc18]; decide) (by rw [hc18]; rfl) (by decide) (l_case_18 C hi hcs h18 hR kk _ _ _ hw hl)
    by_cases hc19 : x = (19 : Int32)
    · exact lv_tableIn (tgt := 842) hx hb dl_40 (by rw [hc19]; decide) (by rw [hc19]; decide) (by rw [hc19]; rfl) (by decide) (l_case_19 C hi hcs h19 hR kk _ _ _ hw hl)
    by_cases hc20 : x = (20 : Int32)
    · exact lv_tableIn (tgt := 867) hx hb dl_40 (by rw [hc20]; decide) (by rw [hc20]; decide) (by rw [hc20]; rfl) (by decide) (l_case_20 C hi hcs h20 hR kk _ _ _ hw hl)
    by_cases hc21 : x = (21 : Int32)
    · exact lv_tableIn (tgt := 880) hx hb dl_40 (by rw [hc21]; decide) (by rw [hc21]; decide) (by rw [hc21]; rfl) (by decide) (l_case_21 C hi hcs h21 hR kk _ _ _ hw hl)
    by_cases hc22 : x = (22 : Int32)
    · exact lv_tableIn (tgt := 905) hx hb dl_40 (by rw [hc22]; decide) (by rw [hc22]; decide) (by rw [hc22]; rfl) (by decide) (l_case_22 C hi hcs h22 hR kk _ _ _ hw hl)
    by_cases hc23 : x = (23 : Int32)
    · exact lv_tableIn (tgt := 918) hx hb dl_40 (by rw [hc23]; decide) (by rw [hc23]; decide) (by rw [hc23]; rfl) (by decide) (l_case_23 C hi hcs h23 hR kk _ _ _ hw hl)
    by_cases hc24 : x = (24 : Int32)
    · exact lv_tableIn (tgt := 943) hx hb dl_40 (by rw [hc24]; decide) (by rw [hc24]; decide) (by rw [hc24]; rfl) (by decide) (l_case_24 C hi hcs h24 hR kk _ _ _ hw hl)
    by_cases hc25 : x = (25 : Int32)
    · exact lv_tableIn (tgt := 956) hx hb dl_40 (by rw [hc25]; decide) (by rw [hc25]; decide) (by rw [hc25]; rfl) (by decide) (l_case_25 C hi hcs h25 hR kk _ _ _ hw hl)
    by_cases hc26 : x = (26 : Int32)
    · exact lv_tableIn (tgt := 969) hx hb dl_40 (by rw [hc26]; decide) (by rw [hc26]; decide) (by rw [hc26]; rfl) (by decide) (l_case_26 C hi hcs h26 hR kk _ _ _ hw hl)
    by_cases hc27 : x = (27 : Int32)
    · exact lv_tableIn (tgt := 982) hx hb dl_40 (by rw [hc27]; decide) (by rw [hc27]; decide) (by rw [hc27]; rfl) (by decide) (l_case_27 C hi hcs h27 hR kk _ _ _ hw hl)
    by_cases hc28 : x = (28 : Int32)
    · exact lv_tableIn (tgt := 995) hx hb dl_40 (by rw [hc28]; decide) (by rw [hc28]; decide) (by rw [hc28]; rfl) (by decide) (l_case_28 C hi hcs h28 hR kk _ _ _ hw hl)
    by_cases hc29 : x = (29 : Int32)
    · exact lv_tableIn (tgt := 1008) hx hb dl_40 (by rw [hc29]; decide) (by rw [hc29]; decide) (by rw [hc29]; rfl) (by decide) (l_case_29 C hi hcs h29 hR kk _ _ _ hw hl)
    by_cases hc30 : x = (30 : Int32)
    · exact lv_tableIn (tgt := 1021) hx hb dl_40 (by rw [hc30]; decide) (by rw [hc30]; decide) (by rw [hc30]; rfl) (by decide) (l_case_30 C hi hcs h30 hR kk _ _ _ hw hl)
    by_cases hc31 : x = (31 : Int32)
    · exact lv_tableIn (tgt := 1046) hx hb dl_40 (by rw [hc31]; decide) (by rw [hc31]; decide) (by rw [hc31]; rfl) (by decide) (l_case_31 C hi hcs h31 hR kk _ _ _ hw hl)
    by_cases hc32 : x = (32 : Int32)
    · exact lv_tableIn (tgt := 1071) hx hb dl_40 (by rw [hc32]; decide) (by rw [hc32]; decide) (by rw [hc32]; rfl) (by decide) (l_case_32 C hi hcs h32 hR kk _ _ _ hw hl)
    by_cases hc33 : x = (33 : Int32)
    · exact lv_tableIn (tgt := 1084) hx hb dl_40 (by rw [hc33]; decide) (by rw [hc33]; decide) (by rw [hc33]; rfl) (by decide) (l_case_33 C hi hcs h33 hR kk _ _ _ hw hl)
    by_cases hc34 : x = (34 : Int32)
    · exact lv_tableIn (tgt := 1097) hx hb dl_40 (by rw [hc34]; decide) (by rw [hc34]; decide) (by rw [hc34]; rfl) (by decide) (l_case_34 C hi hcs h34 hR kk _ _ _ hw hl)
    by_cases hc35 : x = (35 : Int32)
    · exact lv_tableIn (tgt := 1146) hx hb dl_40 (by rw [hc35]; decide) (by rw [hc35]; decide) (by rw [hc35]; rfl) (by decide) (l_case_35 C hi hcs h35 hR kk _ _ _ hw hl)
    by_cases hc36 : x = (36 : Int32)
    · exact lv_tableIn (tgt := 1159) hx hb dl_40 (by rw [hc36]; decide) (by rw [hc36]; decide) (by rw [hc36]; rfl) (by decide) (l_case_36 C hi hcs h36 hR kk _ _ _ hw hl)
    by_cases hc37 : x = (37 : Int32)
    · exact lv_tableIn (tgt := 1184) hx hb dl_40 (by rw [hc37]; decide) (by rw [hc37]; decide) (by rw [hc37]; rfl) (by decide) (l_case_37 C hi hcs h37 hR kk _ _ _ hw hl)
    by_cases hc38 : x = (38 : Int32)
    · exact lv_tableIn (tgt := 1209) hx hb dl_40 (by rw [hc38]; decide) (by rw [hc38]; decide) (by rw [hc38]; rfl) (by decide) (l_case_38 C hi hcs h38 hR kk _ _ _ hw hl)
    by_cases hc39 : x = (39 : Int32)
    · exact lv_tableIn (tgt := 1246) hx hb dl_40 (by rw [hc39]; decide) (by rw [hc39]; decide) (by rw [hc39]; rfl) (by decide) (l_case_39 C hi hcs h39 hR kk _ _ _ hw hl)
    by_cases hc40 : x = (40 : Int32)
    · exact lv_tableIn (tgt := 1259) hx hb dl_40 (by rw [hc40]; decide) (by rw [hc40]; decide) (by rw [hc40]; rfl) (by decide) (l_case_40 C hi hcs h40 hR kk _ _ _ hw hl)
    by_cases hc41 : x = (41 : Int32)
    · exact lv_tableIn (tgt := 1272) hx hb dl_40 (by rw [hc41]; decide) (by rw [hc41]; decide) (by rw [hc41]; rfl) (by decide) (l_case_41 C hi hcs h41 hR kk _ _ _ hw hl)
    by_cases hc42 : x = (42 : Int32)
    · exact lv_tableIn (tgt := 1285) hx hb dl_40 (by rw [hc42]; decide) (by rw [hc42]; decide) (by rw [hc42]; rfl) (by decide) (l_case_42 C hi hcs h42 hR kk _ _ _ hw hl)
    by_cases hc43 : x = (43 : Int32)
    · exact lv_tableIn (tgt := 1346) hx hb dl_40 (by rw [hc43]; decide) (by rw [hc43]; decide) (by rw [hc43]; rfl) (by decide) (l_case_43 C hi hcs h43 hR kk _ _ _ hw hl)
    by_cases hc44 : x = (44 : Int32)
    · exact lv_tableIn (tgt := 1419) hx hb dl_40 (by rw [hc44]; decide) (by rw [hc44]; decide) (by rw [hc44]; rfl) (by decide) (l_case_44 C hi hcs h44 hR kk _ _ _ hw hl)
    by_cases hc45 : x = (45 : Int32)
    · exact lv_tableIn (tgt := 1456) hx hb dl_40 (by rw [hc45]; decide) (by rw [hc45]; decide) (by rw [hc45]; rfl) (by decide) (l_case_45 C hi hcs h45 hR kk _ _ _ hw hl)
    by_cases hc46 : x = (46 : Int32)
    · exact lv_tableIn (tgt := 1469) hx hb dl_40 (by rw [hc46]; decide) (by rw [hc46]; decide) (by rw [hc46]; rfl) (by decide) (l_case_46 C hi hcs h46 hR kk _ _ _ hw hl)
    by_cases hc47 : x = (47 : Int32)
    · exact lv_tableIn (tgt := 1494) hx hb dl_40 (by rw [hc47]; decide) (by rw [hc47]; decide) (by rw [hc47]; rfl) (by decide) (l_case_47 C hi hcs h47 hR kk _ _ _ hw hl)
    by_cases hc48 : x = (48 : Int32)
    · exact lv_tableIn (tgt := 1531) hx hb dl_40 (by rw [hc48]; decide) (by rw [hc48]; decide) (by rw [hc48]; rfl) (by decide) (l_case_48 C hi hcs h48 hR kk _ _ _ hw hl)
    by_cases hc49 : x = (49 : Int32)
    · exact lv_tableIn (tgt := 1556) hx hb dl_40 (by rw [hc49]; decide) (by rw [hc49]; decide) (by rw [hc49]; rfl) (by decide) (l_case_49 C hi hcs h49 hR kk _ _ _ hw hl)
    by_cases hc50 : x = (50 : Int32)
    · exact lv_tableIn (tgt := 1581) hx hb dl_40 (by rw [hc50]; decide) (by rw [hc50]; decide) (by rw [hc50]; rfl) (by decide) (l_case_50 C hi hcs h50 hR kk _ _ _ hw hl)
    by_cases hc51 : x = (51 : Int32)
    · exact lv_tableIn (tgt := 1606) hx hb dl_40 (by rw [hc51]; decide) (by rw [hc51]; decide) (by rw [hc51]; rfl) (by decide) (l_case_51 C hi hcs hout h51 hR kk _ _ _ hw hl)
    have hn0 := lv_neT hc0 (a := 0) (by decide)
    have hn1 := lv_neT hc1 (a := 1) (by decide)
    have hn2 := lv_neT hc2 (a := 2) (by decide)
    have hn3 := lv_neT hc3 (a := 3) (by decide)
    have hn4 := lv_neT hc4 (a := 4) (by decide)
    have hn5 := lv_neT hc5 (a := 5) (by decide)
    have hn6 := lv_neT hc6 (a := 6) (by decide)
    have hn7 := lv_neT hc7 (a := 7) (by decide)
    have hn8 := lv_neT hc8 (a := 8) (by decide)
    have hn9 := lv_neT hc9 (a := 9) (by decide)
    have hn10 := lv_neT hc10 (a := 10) (by decide)
    have hn11 := lv_neT hc11 (a := 11) (by decide)
    have hn12 := lv_neT hc12 (a := 12) (by decide)
    have hn13 := lv_neT hc13 (a := 13) (by decide)
    have hn14 := lv_neT hc14 (a := 14) (by decide)
    have hn15 := lv_neT hc15 (a := 15) (by decide)
    have hn16 := lv_neT hc16 (a := 16) (by decide)
    have hn17 := lv_neT hc17 (a := 17) (by decide)
    have hn18 := lv_neT hc18 (a := 18) (by decide)
    have hn19 := lv_neT hc19 (a := 19) (by decide)
    have hn20 := lv_neT hc20 (a := 20) (by decide)
    have hn21 := lv_neT hc21 (a := 21) (by decide)
    have hn22 := lv_neT hc22 (a := 22) (by decide)
    have hn23 := lv_neT hc23 (a := 23) (by decide)
    have hn24 := lv_neT hc24 (a := 24) (by decide)
    have hn25 := lv_neT hc25 (a := 25) (by decide)
    have hn26 := lv_neT hc26 (a := 26) (by decide)
    have hn27 := lv_neT hc27 (a := 27) (by decide)
    have hn28 := lv_neT hc28 (a := 28) (by decide)
    have hn29 := lv_neT hc29 (a := 29) (by decide)
    have hn30 := lv_neT hc30 (a := 30) (by decide)
    have hn31 := lv_neT hc31 (a := 31) (by decide)
    have hn32 := lv_neT hc32 (a := 32) (by decide)
    have hn33 := lv_neT hc33 (a := 33) (by decide)
    have hn34 := lv_neT hc34 (a := 34) (by decide)
    have hn35 := lv_neT hc35 (a := 35) (by decide)
    have hn36 := lv_neT hc36 (a := 36) (by decide)
    have hn37 := lv_neT hc37 (a := 37) (by decide)
    have hn38 := lv_neT hc38 (a := 38) (by decide)
    have hn39 := lv_neT hc39 (a := 39) (by decide)
    have hn40 := lv_neT hc40 (a := 40) (by decide)
    have hn41 := lv_neT hc41 (a := 41) (by decide)
    have hn42 := lv_neT hc42 (a := 42) (by decide)
    have hn43 := lv_neT hc43 (a := 43) (by decide)
    have hn44 := lv_neT hc44 (a := 44) (by decide)
    have hn45 := lv_neT hc45 (a := 45) (by decide)
    have hn46 := lv_neT hc46 (a := 46) (by decide)
    have hn47 := lv_neT hc47 (a := 47) (by decide)
    have hn48 := lv_neT hc48 (a := 48) (by decide)
    have hn49 := lv_neT hc49 (a := 49) (by decide)
    have hn50 := lv_neT hc50 (a := 50) (by decide)
    have hn51 := lv_neT hc51 (a := 51) (by decide)
    exact lv_tableOut (tgt := 1661) hx hb dl_40 (by omega) (by decide) (W.widen (Nat.le_add_right _ _) (Nat.le_add_right _ _) (kk χ σ hR _ _ _ hw hl))
end LLOOP
theorem start_of {Rel : St → St → Prop} (hok : AllOk Rel) (hout : ∀ χ σ x, Rel χ σ → Rel (sL χ 26 0 x) σ) (h0 : Rel χ0 σ0) {p : Program} {e : Env} {s : State} {m : MethodId} {below : List Frame} {meth : Method} {c : Code} (l : Launch) (hflags : l.flags = flags0) {b L : Nat} {xs : Nat → Int32} (hL : L ≤ 3072) (C0 : lw_At p s m meth c b L xs) : W p l e room_1 s m #[Value.ref b] below meth c s.heap [] 0 0 (lw_Z below #[Value.ref b] s) (entryFrame m ([Value.ref b] : List Value).toArray 8) := by
  obtain ⟨hx, hb, hr, hml, hown, hts, hX, hbl, hlocks, hgv⟩ := id C0
  obtain ⟨D, yy, aK, aV, hKK⟩ := law_KK hts hgv
  obtain ⟨G0, hG0⟩ : ∃ G0 : gT, G0 = (D, yy, fun _ => 0, s.heap, aK, aV, fun q => s.heap.size ≤ q, PL) := ⟨_, rfl⟩
  have hK0 : KK G0 s := by rw [hG0]; exact hKK _ _
  have X0 : FX p m c code 8 s #[.ref b] "OysterBedsLaw" G0 := ⟨hx, hb, hml, hown, fun w hw => hts w (wg_tbl hw), hK0⟩
  have hO : va_AO "OysterBeds$Bed" s := va_AO.of (hts _ (List.mem_append_right _ (List.mem_of_getElem? (i := 126) (by decide +kernel))))
  have hgA : ∀ q, (gH G0).size ≤ q → gA G0 q := by rw [hG0]; exact fun q h => h
  have hC0 : CX G0 (gA G0) s.heap := by rw [hG0]; exact ⟨fun q h => h, fun q h => h, fun q _ _ => rfl, Nat.le_refl _⟩
  have hP : va_P (gD G0) vwCl [] s.heap := fun k q h => by simp at h
  have hD : va_D (gA G0) [] := ⟨fun i j p q h => by simp at h, fun k q h => by simp at h⟩
  have hS : va_S (gA G0) s.heap s.heap [] := va_S.rf
  have hl := lv_entry ([.ref b]) (n := 8) (Nat.le_of_ble_eq_true rfl)
  rw [lg_entry_eq]
  generalize (lg_sl ([.ref b]) ++ List.replicate (8 - (lg_sl ([.ref b])).length) Slot.unset).toArray = ls at hl ⊢
  have hl : lv_has ls 8 [(0, .ref b)] := hl
  refine g_new (C := "OysterBeds") (T := TX11) (N := 9) (ty := tyX11) (fs := [.null, .null, .null, .null, .null, .null, .null, .null, .null]) (rest := []) (host := "OysterBeds") (out := out_X11 G0) X0 hO hC0 hgA ct7 hP hD hS hl rfl (by decide) wd_24 wd_25 wd_1 (Or.inr wd_26) wd_27 wd_28 (fun b => c_X11_init hgA) (by intro j hj; rcases j with _ | _ | _ | _ | _ | _ | _ | _ | _ | j <;> first | rfl | omega) ⟨Nat.le_of_ble_eq_true rfl, Nat.le_of_ble_eq_true rfl⟩ (Nat.le_of_ble_eq_true rfl) (Nat.le_of_ble_eq_true rfl) (Nat.le_of_ble_eq_true rfl) dl_0 dl_3 dl_4 (fun q a H locs hP hD hS => ?_)
  refine lv_astore_n (lv' := [(1, .ref q), (0, .ref b)]) hx hb dl_7 rfl hl (Nat.le_of_ble_eq_true rfl) rfl (fun ls hl => ?_)
  refine g_new (C := "OysterBedsModel") (T := TX12) (N := 41) (ty := tyX12) (fs := [.int 0, .int 0, .null, .int 0, .int 0, .null, .null, .null, .null, .int 0, .int 0, .int 0, .int 0, .null, .int 0, .null, .null, .int 0, .int 0, .null, .null, .int 0, .null, .null, .null, .null, .int 0, .int 0, .null, .null, .null, .int 0, .null, .null, .null, .null, .null, .int 0, .null, .null, .null]) (rest := []) (host := "OysterBeds") (out := out_X12 G0) X0 hO hC0 hgA ct8 hP hD hS hl rfl (by decide) wd_950 wd_951 wd_10 (Or.inr wd_952) wd_953 wd_954 (fun b => c_X12_init hgA) (by intro j hj; rcases j with _ | _ | _ | _ | _ | _ | _ | _ | _ | _ | _ | _ | _ | _ | _ | _ | _ | _ | _ | _ | _ | _ | _ | _ | _ | _ | _ | _ | _ | _ | _ | _ | _ | _ | _ | _ | _ | _ | _ | _ | _ | j <;> first | rfl | omega) ⟨Nat.le_of_ble_eq_true rfl, Nat.le_of_ble_eq_true rfl⟩ (Nat.le_of_ble_eq_true rfl) (Nat.le_of_ble_eq_true rfl) (Nat.le_of_ble_eq_true rfl) dl_8 dl_11 dl_12 (fun q2 a2 H locs hP hD hS => ?_)
  refine lv_astore_n (lv' := [(2, .ref q2), (1, .ref q), (0, .ref b)]) hx hb dl_15 rfl hl (Nat.le_of_ble_eq_true rfl) rfl (fun ls hl => ?_)
  refine lv_iconst (v := (1 : Int32)) hx hb dl_16 (by decide) ?_
  refine g_newa (k := 2) (N' := 1) (a1 := .inr (.inl (fun _ => 0))) .long X0 hC0 hP hD hS rfl wd_63 rfl (fun _ => rfl) (by decide) (by decide) (Nat.le_of_ble_eq_true rfl) (Nat.le_of_ble_eq_true rfl) (Nat.le_of_ble_eq_true rfl) dl_17 (fun q3 H hP hD hS => ?_)
  refine lv_astore_n (lv' := [(3, .ref q3), (2, .ref q2), (1, .ref q), (0, .ref b)]) hx hb dl_19 rfl hl (Nat.le_of_ble_eq_true rfl) rfl (fun ls hl => ?_)
  refine lv_iconst (v := (0 : Int32)) hx hb dl_20 (by decide) ?_
  refine lv_istore (lv' := [(4, .int 0), (3, .ref q3), (2, .ref q2), (1, .ref q), (0, .ref b)]) hx hb dl_21 hl (Nat.le_of_ble_eq_true rfl) rfl (fun ls hl => ?_)
  subst hG0
  obtain ⟨hP1, hD1⟩ := start_P (aK := aK) (aV := aV) (Hp := s.heap) rfl hP hD
  have hw : HQ (sG D yy s.heap aK aV (fun q => s.heap.size ≤ q) q a q2 a2 q3) χ0 σ0 H locs := ⟨⟨hP1, hD1, hS.2.1, hS.1⟩, hS.2.2⟩
  have hl1 : lv_has ls 8 (llv (sG D yy s.heap aK aV (fun q => s.heap.size ≤ q) q a q2 a2 q3) b 0) := lv_sub hl [4, 3, 2, 1, 0] rfl
  have hst : l.stackTraces = false := by unfold Launch.stackTraces; rw [hflags]; decide +kernel
  have C : LC p l s m meth c b L xs (sG D yy s.heap aK aV (fun q => s.heap.size ≤ q) q a q2 a2 q3) := ⟨⟨hx, hb, hml, hown, fun w hw => hts w (wg_tbl hw), hKK _ _⟩, hX, hbl, hlocks, hr, hL, hst, ⟨rfl, fun _ => Iff.rfl⟩, rfl⟩
  exact W.widen (Nat.le_of_ble_eq_true rfl) (Nat.le_of_ble_eq_true rfl) (law_loop C hok hout (L + 1) 0 χ0 σ0 h0 (Nat.zero_le _) (by omega) _ _ _ hw hl1)
