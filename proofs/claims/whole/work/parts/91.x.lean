/-! THE LAW: the two cases that may throw. -/
def lz_ {α : Type} (f : α → Int64) (χ : St) : Option α → Int32 × St
  | some u => (0, sL χ 26 0 (f u))
  | none => (1, χ)
theorem l_case_4 {p : Program} {l : Launch} {e : Env} {s : State} {m : MethodId} {below : List Frame} {meth : Method} {c : Code} {b L : Nat} {xs : Nat → Int32} {G : gT} (C : LC p l s m meth c b L xs G) {i : Nat} (hi : i + 6 ≤ L) {cells slots : Nat} (hcs : cells + 1 ≤ 601024 ∧ slots + 6 ≤ 7293034) {Rel : St → St → Prop} (hout : ∀ χ σ x, Rel χ σ → Rel (sL χ 26 0 x) σ) (hok : ok_4 Rel) {χ σ : St} (hR : Rel χ σ)
    (kk : ∀ χ1 σ1, Rel χ1 σ1 → LAt p l e s m below meth c b G (cells + 1) (slots + 6) 1661 i χ1 σ1) : LAt p l e s m below meth c b G cells slots 340 i χ σ := by
  intro H locs ls hw hl
  have hx := C.1.1
  have hb := C.1.2.1
  have hf := C.2.2.2.2.2.2.2.1
  obtain ⟨q, v, σ1, e1, e2, e3, e4, hR1⟩ := hok χ σ (xs (i + 1)) (xs (i + 2)) hR
  have e0 : f_L_oyster χ (xs (i + 1)) (xs (i + 2)) = some (lz_ (fun u => u.toInt64) χ q) := by unfold f_L_oyster; rw [e1]; cases q <;> rfl
  refine lv_aload_n hx hb dl_340 rfl (lv_at hl 1 rfl) ?_
  refine lv_aload_n hx hb dl_341 rfl (lv_at hl 0 rfl) ?_
  refine lv_iload hx hb dl_342 (lv_at hl 4 rfl) ?_
  refine lv_iconst (v := (1 : Int32)) hx hb dl_344 (by decide) ?_
  refine lv_iadd hx hb dl_345 ?_
  refine l_ld (k := 1) C hw hi (by decide) (by decide) dl_346 ?_
  refine lv_aload_n hx hb dl_347 rfl (lv_at hl 0 rfl) ?_
  refine lv_iload hx hb dl_348 (lv_at hl 4 rfl) ?_
  refine lv_iconst (v := (2 : Int32)) hx hb dl_350 (by decide) ?_
  refine lv_iadd hx hb dl_351 ?_
  refine l_ld (k := 2) C hw hi (by decide) (by decide) dl_352 ?_
  refine lv_aload_n hx hb dl_353 rfl (lv_at hl 3 rfl) ?_
  generalize hz : lz_ (fun u => u.toInt64) χ q = z at e0
  refine l_callW (n := 4) (As := [.ref (ga G 0), .int (xs (i + 1)), .int (xs (i + 2)), .ref (ga G 26)]) (rest := []) (st' := [.int z.1]) C.1 hw hl wd_869 wd_868 wd_0 wd_867 (by decide +kernel) (c_L_oyster hf C.2.2.2.2.2.2.1 e0) rfl ⟨Nat.le_of_ble_eq_true rfl, Nat.le_of_ble_eq_true rfl⟩ hcs rfl rfl (Nat.le_of_ble_eq_true rfl) dl_354 (fun H locs hw => ?_)
  refine lv_istore (lv' := (5, .int z.1) :: llv G b i) hx hb dl_357 hl (Nat.le_of_ble_eq_true rfl) rfl (fun ls hl => ?_)
  refine lv_aload_n hx hb dl_359 rfl (lv_at hl 3 rfl) ?_
  refine lv_aload_n hx hb dl_360 rfl (lv_at hl 1 rfl) ?_
  refine lv_iload hx hb dl_361 (lv_at hl 5 rfl) ?_
  refine lv_iconst (v := (1 : Int32)) hx hb dl_363 (by decide) ?_
  refine lv_iadd hx hb dl_364 ?_
  refine l_ld (k := 1) C hw hi (by decide) (by decide) dl_365 ?_
  refine lv_aload_n hx hb dl_366 rfl (lv_at hl 1 rfl) ?_
  refine lv_iload hx hb dl_367 (lv_at hl 5 rfl) ?_
  refine lv_iconst (v := (2 : Int32)) hx hb dl_369 (by decide) ?_
  refine lv_iadd hx hb dl_370 ?_
  refine l_ld (k := 2) C hw hi (by decide) (by decide) dl_371 ?_
  refine r_callV (As := [.int (xs (i + 1)), .int (xs (i + 2))]) (rest := []) (st' := [.int v]) C.1 hw hl mwX12_oyster wd_1215 wd_1216 wd_1214 (c_X12_oyster hf e2) (r_recv C.1 hw ct8 (o_300 hf)) rfl ⟨Nat.le_of_ble_eq_true rfl, Nat.le_of_ble_eq_true rfl⟩ (And.intro (by show _ ≤ 601024; omega) (by show _ ≤ 7293034; omega)) rfl rfl (Nat.le_of_ble_eq_true rfl) dl_372 (fun H locs hw => ?_)
  refine lv_istore (lv' := (6, .int v) :: (5, .int z.1) :: llv G b i) hx hb dl_375 hl (Nat.le_of_ble_eq_true rfl) rfl (fun ls hl => ?_)
  refine lv_aload_n hx hb dl_377 rfl (lv_at hl 4 rfl) ?_
  refine r_callV (As := []) (rest := []) (st' := [.int (if q.isSome then 0 else 1)]) C.1 hw hl mwX12_thrown wd_1081 wd_1082 wd_1080 (c_X12_thrown hf e3) (r_recv C.1 hw ct8 (o_300 hf)) rfl ⟨Nat.le_of_ble_eq_true rfl, Nat.le_of_ble_eq_true rfl⟩ (And.intro (by show _ ≤ 601024; omega) (by show _ ≤ 7293034; omega)) rfl rfl (Nat.le_of_ble_eq_true rfl) dl_378 (fun H locs hw => ?_)
  refine lv_iload hx hb dl_381 (lv_at hl 1 rfl) ?_
  have hzz : (if q.isSome then (0 : Int32) else 1) = z.1 := by rw [← hz]; cases q <;> rfl
  refine lv_icmp_eq (tgt := 388) hx hb dl_383 (by decide) (fun hc => ?_) (fun hc => absurd hzz hc)
  refine lv_iload hx hb dl_388 (lv_at hl 1 rfl) ?_
  have hfin : HQ G z.2 σ1 H locs → W p l e room_1 s m #[.ref b] below meth c H locs (cells + 1) (slots + 6) (lQ below b s) (F0 m 405 ls []) := by
    intro hw
    refine lv_goto (tgt := 1661) hx hb dl_405 (by decide) ?_
    refine kk z.2 σ1 ?_ _ _ _ hw (lv_sub hl [2, 3, 4, 5, 6] rfl)
    rw [← hz]; cases q with
    | none => exact hR1
    | some u => exact hout _ _ _ hR1
  refine lv_if_ne (tgt := 405) hx hb dl_390 (by decide) (fun hc => hfin hw) (fun hc => ?_)
  have hq : ∃ u, q = some u := by
    have hc9 := hc
    rw [← hz] at hc9
    cases q with
    | none => exact absurd hc9 (show ¬ (1 : Int32) = 0 by decide)
    | some u => exact ⟨u, rfl⟩
  obtain ⟨u, hu⟩ := hq
  have huv := e4 u hu
  have hcell : cL z.2 26 0 = v.toInt64 := by rw [← hz, hu, ← huv]; exact rLs
  refine lv_aload_n hx hb dl_393 rfl (lv_at hl 5 rfl) ?_
  refine lv_iconst (v := (0 : Int32)) hx hb dl_394 (by decide) ?_
  refine r_lald C.1 hw (o_26 hf) (Nat.le_of_ble_eq_true rfl) (by decide) dl_395 ?_
  rw [show cL z.2 26 ((0 : Int32).toNatClampNeg) = v.toInt64 from hcell]
  refine lv_iload hx hb dl_396 (lv_at hl 0 rfl) ?_
  refine lv_i2l hx hb dl_398 rfl ?_
  refine W.lcmp hx hb dl_399 ?_
  exact lv_if_eq (tgt := 405) hx hb dl_400 (by decide) (fun hc => hfin hw) (fun hc => absurd (l_cmp _) hc)
theorem l_case_51 {p : Program} {l : Launch} {e : Env} {s : State} {m : MethodId} {below : List Frame} {meth : Method} {c : Code} {b L : Nat} {xs : Nat → Int32} {G : gT} (C : LC p l s m meth c b L xs G) {i : Nat} (hi : i + 6 ≤ L) {cells slots : Nat} (hcs : cells + 1 ≤ 601024 ∧ slots + 6 ≤ 7293034) {Rel : St → St → Prop} (hout : ∀ χ σ x, Rel χ σ → Rel (sL χ 26 0 x) σ) (hok : ok_51 Rel) {χ σ : St} (hR : Rel χ σ)
    (kk : ∀ χ1 σ1, Rel χ1 σ1 → LAt p l e s m below meth c b G (cells + 1) (slots + 6) 1661 i χ1 σ1) : LAt p l e s m below meth c b G cells slots 1606 i χ σ := by
  intro H locs ls hw hl
  have hx := C.1.1
  have hb := C.1.2.1
  have hf := C.2.2.2.2.2.2.2.1
  obtain ⟨q, v, σ1, e1, e2, e3, e4, hR1⟩ := hok χ σ (xs (i + 1)) hR
  have e0 : f_L_row χ (xs (i + 1)) = some (lz_ (fun u => u) χ q) := by unfold f_L_row; rw [e1]; cases q <;> rfl
  refine lv_aload_n hx hb dl_1606 rfl (lv_at hl 1 rfl) ?_
  refine lv_aload_n hx hb dl_1607 rfl (lv_at hl 0 rfl) ?_
  refine lv_iload hx hb dl_1608 (lv_at hl 4 rfl) ?_
  refine lv_iconst (v := (1 : Int32)) hx hb dl_1610 (by decide) ?_
  refine lv_iadd hx hb dl_1611 ?_
  refine l_ld (k := 1) C hw hi (by decide) (by decide) dl_1612 ?_
  refine lv_aload_n hx hb dl_1613 rfl (lv_at hl 3 rfl) ?_
  generalize hz : lz_ (fun u => u) χ q = z at e0
  refine l_callW (n := 3) (As := [.ref (ga G 0), .int (xs (i + 1)), .ref (ga G 26)]) (rest := []) (st' := [.int z.1]) C.1 hw hl wd_944 wd_943 wd_0 wd_942 (by decide +kernel) (c_L_row hf C.2.2.2.2.2.2.1 e0) rfl ⟨Nat.le_of_ble_eq_true rfl, Nat.le_of_ble_eq_true rfl⟩ hcs rfl rfl (Nat.le_of_ble_eq_true rfl) dl_1614 (fun H locs hw => ?_)
  refine lv_istore (lv' := (5, .int z.1) :: llv G b i) hx hb dl_1617 hl (Nat.le_of_ble_eq_true rfl) rfl (fun ls hl => ?_)
  refine lv_aload_n hx hb dl_1619 rfl (lv_at hl 3 rfl) ?_
  refine lv_aload_n hx hb dl_1620 rfl (lv_at hl 1 rfl) ?_
  refine lv_iload hx hb dl_1621 (lv_at hl 5 rfl) ?_
  refine lv_iconst (v := (1 : Int32)) hx hb dl_1623 (by decide) ?_
  refine lv_iadd hx hb dl_1624 ?_
  refine l_ld (k := 1) C hw hi (by decide) (by decide) dl_1625 ?_
  refine r_callV (As := [.int (xs (i + 1))]) (rest := []) (st' := [.long v]) C.1 hw hl mwX12_row wd_1617 wd_1618 wd_1616 (c_X12_row hf e2) (r_recv C.1 hw ct8 (o_300 hf)) rfl ⟨Nat.le_of_ble_eq_true rfl, Nat.le_of_ble_eq_true rfl⟩ (And.intro (by show _ ≤ 601024; omega) (by show _ ≤ 7293034; omega)) rfl rfl (Nat.le_of_ble_eq_true rfl) dl_1626 (fun H locs hw => ?_)
  refine lv_lstore (lv' := (6, .long v) :: (5, .int z.1) :: llv G b i) hx hb dl_1629 hl (Nat.le_of_ble_eq_true rfl) rfl (fun ls hl => ?_)
  refine lv_aload_n hx hb dl_1631 rfl (lv_at hl 4 rfl) ?_
  refine r_callV (As := []) (rest := []) (st' := [.int (if q.isSome then 0 else 1)]) C.1 hw hl mwX12_thrown wd_1081 wd_1082 wd_1080 (c_X12_thrown hf e3) (r_recv C.1 hw ct8 (o_300 hf)) rfl ⟨Nat.le_of_ble_eq_true rfl, Nat.le_of_ble_eq_true rfl⟩ (And.intro (by show _ ≤ 601024; omega) (by show _ ≤ 7293034; omega)) rfl rfl (Nat.le_of_ble_eq_true rfl) dl_1632 (fun H locs hw => ?_)
  refine lv_iload hx hb dl_1635 (lv_at hl 1 rfl) ?_
  have hzz : (if q.isSome then (0 : Int32) else 1) = z.1 := by rw [← hz]; cases q <;> rfl
  refine lv_icmp_eq (tgt := 1642) hx hb dl_1637 (by decide) (fun hc => ?_) (fun hc => absurd hzz hc)
  refine lv_iload hx hb dl_1642 (lv_at hl 1 rfl) ?_
  have hfin : HQ G z.2 σ1 H locs → W p l e room_1 s m #[.ref b] below meth c H locs (cells + 1) (slots + 6) (lQ below b s) (F0 m 1658 ls []) := by
    intro hw
    refine lv_goto (tgt := 1661) hx hb dl_1658 (by decide) ?_
    refine kk z.2 σ1 ?_ _ _ _ hw (lv_sub hl [2, 3, 4, 5, 6] rfl)
    rw [← hz]; cases q with
    | none => exact hR1
    | some u => exact hout _ _ _ hR1
  refine lv_if_ne (tgt := 1658) hx hb dl_1644 (by decide) (fun hc => hfin hw) (fun hc => ?_)
  have hq : ∃ u, q = some u := by
    have hc9 := hc
    rw [← hz] at hc9
    cases q with
    | none => exact absurd hc9 (show ¬ (1 : Int32) = 0 by decide)
    | some u => exact ⟨u, rfl⟩
  obtain ⟨u, hu⟩ := hq
  have huv := e4 u hu
  have hcell : cL z.2 26 0 = v := by rw [← hz, hu, ← huv]; exact rLs
  refine lv_aload_n hx hb dl_1647 rfl (lv_at hl 5 rfl) ?_
  refine lv_iconst (v := (0 : Int32)) hx hb dl_1648 (by decide) ?_
  refine r_lald C.1 hw (o_26 hf) (Nat.le_of_ble_eq_true rfl) (by decide) dl_1649 ?_
  rw [show cL z.2 26 ((0 : Int32).toNatClampNeg) = v from hcell]
  refine lv_lload hx hb dl_1650 (lv_at hl 0 rfl) ?_
  refine W.lcmp hx hb dl_1652 ?_
  exact lv_if_eq (tgt := 1658) hx hb dl_1653 (by decide) (fun hc => hfin hw) (fun hc => absurd (l_cmp _) hc)
