/-! LAYER 2: a season's acts, one behind another. -/
theorem se_lp {B : Bd_} {C : Lw} {T : Nat × (Nat → Nat)} {χ1 s1 σx : St} {m : Nat} (W : WB B) (hb : BC_ 32 B χ1) (hr : BR 306 0 B s1) (hw : (cW χ1).1 = 16 ∨ (cW χ1).1 = 21) (hi : isLaw (cW χ1).1 = true) (hC : WC C) (hLC : LC_ (cW χ1).1 C χ1) (hR : LR_ C s1) (hT : RT T χ1 σx) (hLm : ip T.2 m = T.1) (h60 : T.1 ≤ 60) (hm0 : m ≤ T.1) (hg : ∀ j, j < m → ip T.2 j < T.1 ∧ fo T.2 T.1 (ip T.2 j) = 0) (hn : cF s1 300 26 = nI m) (hit : ∀ j, j < m → IT T.2 j s1) :
    ∃ (i : Nat) (B' : Bd_) (χ2 s2 : St), i ≤ m ∧ iter (fun z : Int32 × Int32 × Int32 × St => f_X11_season_s44 z.2.2.2 z.1 z.2.1 z.2.2.1) FU ((0 : Int32), (0 : Int32), (0 : Int32), χ1) = some (nI i, (if i < m then nI 1 else nI 0), χ2) ∧ iter (fun z : Int32 × St => f_X12_season_s64 z.2 z.1) FU ((0 : Int32), s1) = some (nI i, s2) ∧ B'.1 = B.1 ∧ WB B' ∧ FC_ 32 ((cW χ1).1 + 4) χ1 χ2 ∧ FR 306 s1 s2 ∧ BC_ 32 B' χ2 ∧ BR 306 0 B' s2 := by
  have hFU : FU = 4096 := rfl
  have key : ∀ j, j ≤ m → (∃ (F : Nat) (B' : Bd_) (χ2 s2 : St), F + j = FU ∧ iter (fun z : Int32 × Int32 × Int32 × St => f_X11_season_s44 z.2.2.2 z.1 z.2.1 z.2.2.1) FU ((0 : Int32), (0 : Int32), (0 : Int32), χ1) = iter (fun z : Int32 × Int32 × Int32 × St => f_X11_season_s44 z.2.2.2 z.1 z.2.1 z.2.2.1) F (nI j, nI 0, nI (ip T.2 j), χ2) ∧ iter (fun z : Int32 × St => f_X12_season_s64 z.2 z.1) FU ((0 : Int32), s1) = iter (fun z : Int32 × St => f_X12_season_s64 z.2 z.1) F (nI j, s2) ∧ B'.1 = B.1 ∧ WB B' ∧ FC_ 32 ((cW χ1).1 + 4) χ1 χ2 ∧ FR 306 s1 s2 ∧ BC_ 32 B' χ2 ∧ BR 306 0 B' s2) ∨ ∃ (i : Nat) (B' : Bd_) (χ2 s2 : St), i < m ∧ iter (fun z : Int32 × Int32 × Int32 × St => f_X11_season_s44 z.2.2.2 z.1 z.2.1 z.2.2.1) FU ((0 : Int32), (0 : Int32), (0 : Int32), χ1) = some (nI i, nI 1, χ2) ∧ iter (fun z : Int32 × St => f_X12_season_s64 z.2 z.1) FU ((0 : Int32), s1) = some (nI i, s2) ∧ B'.1 = B.1 ∧ WB B' ∧ FC_ 32 ((cW χ1).1 + 4) χ1 χ2 ∧ FR 306 s1 s2 ∧ BC_ 32 B' χ2 ∧ BR 306 0 B' s2 := by
    intro j
    induction j with
    | zero => intro _; exact Or.inl ⟨FU, B, χ1, s1, rfl, rfl, rfl, rfl, W, FC_.rf _ _ _, FR.rf _ _, hb, hr⟩
    | succ j ih =>
      intro hj
      rcases ih (by omega) with ⟨F, B', χ2, s2, c1, c2, c3, c4, c5, c6, c7, c8, c9⟩ | h
      · obtain ⟨g1, g2⟩ := hg j (by omega)
        have hT2 : RT T χ2 σx := hT.cg (c6.2.2.1 1 (by omega)) (c6.2.2.2 2 (by omega) (by omega)) rfl rfl
        have hLC2 : LC_ (cW χ2).1 C χ2 := by
          rw [c6.2.1]
          exact hLC.cg (c6.2.2.1 _ (by omega)) (c6.2.2.2 _ (by omega) (by omega))
        have hIT2 : IT T.2 j s2 := by
          obtain ⟨i1, i2, i3⟩ := hit j (by omega)
          exact ⟨by rw [c7.2.2 323 (by omega) (by omega) (by omega)]; exact i1, by rw [c7.2.2 324 (by omega) (by omega) (by omega)]; exact i2, fun x => by rw [c7.2.2 325 (by omega) (by omega) (by omega)]; exact i3 x⟩
        obtain ⟨B3, a, χ3, s3, d1, d2, d3, d4, d5, d6, d7, d8⟩ := op_ac (L := T.1) c5 c8 c9 (by rw [c6.2.1]; exact hi) (by rw [c6.2.1]; exact hw) hC hLC2 (hR.cg (by rw [c7.1]) (c7.2.2 315 (by omega) (by omega) (by omega))) hT2 (Nat.le_refl _) g2 (by omega) hIT2
        rw [c6.2.1] at d5
        have hf3 := c6.tr d5
        have hg3 := c7.tr d6
        have hT3 : RT T χ3 σx := hT.cg (hf3.2.2.1 1 (by omega)) (hf3.2.2.2 2 (by omega) (by omega)) rfl rfl
        have u1 := (hT.2.2.2 _ g1).1
        have e1 : f_X11_season_s44 χ2 (nI j) (nI 0) (nI (ip T.2 j)) = some (.inl ((if 0 ≤ a then nI (j + 1) else nI j), (if 0 ≤ a then nI 0 else nI 1), nI (ip T.2 (j + 1)), χ3)) := by
          unfold f_X11_season_s44 f_X11_season_j77_44
          rw [hT2.2.1, if_neg (nI_ge g1 (by omega)), if_pos (show nI 0 = 0 from rfl), bi_nd d3, bi_nd (x8_at hT3 g1), bi_nd (x8_kd _ u1), nI_1, show (1 : Int32) = nI 1 from rfl, nI_add, nI_add]
          rfl
        have e2 : f_X12_season_s64 s2 (nI j) = if a < 0 then some (.inr (nI j, s3)) else some (.inl (nI (j + 1), s3)) := by
          unfold f_X12_season_s64
          rw [show cF s2 300 26 = nI m by rw [c7.1]; exact hn, if_neg (nI_ge (by omega) (by omega)), bi_nd d4]
          by_cases q : a < 0
          · rw [if_pos q, if_pos q]; rfl
          · rw [if_neg q, if_neg q, nI_1]; rfl
        by_cases q : a < 0
        · rw [if_neg (lt_le q), if_neg (lt_le q)] at e1
          rw [if_pos q] at e2
          have e3 : f_X11_season_s44 χ3 (nI j) (nI 1) (nI (ip T.2 (j + 1))) = some (.inr (nI j, nI 1, χ3)) := by
            unfold f_X11_season_s44
            by_cases y : cF χ3 1 1 ≤ nI (ip T.2 (j + 1))
            · rw [if_pos y]
            · rw [if_neg y, if_neg (by decide)]
          refine Or.inr ⟨j, B3, χ3, s3, by omega, ?_, ?_, d1.trans c4, d2, hf3, hg3, d7, d8⟩
          · rw [c2, show F = (F - 2) + 1 + 1 by omega, it_1 _ e1, it_x _ e3]
          · rw [c3, show F = (F - 1) + 1 by omega, it_x _ e2]
        · rw [if_pos (nlt_le q), if_pos (nlt_le q)] at e1
          rw [if_neg q] at e2
          refine Or.inl ⟨F - 1, B3, χ3, s3, by omega, ?_, ?_, d1.trans c4, d2, hf3, hg3, d7, d8⟩
          · rw [c2, show F = (F - 1) + 1 by omega, it_1 _ e1, Nat.add_sub_cancel]
          · rw [c3, show F = (F - 1) + 1 by omega, it_1 _ e2, Nat.add_sub_cancel]
      · exact Or.inr h
  rcases key m (Nat.le_refl _) with ⟨F, B', χ2, s2, c1, c2, c3, c4, c5, c6, c7, c8, c9⟩ | ⟨i, B', χ2, s2, c1, c2, c3, c4⟩
  · refine ⟨m, B', χ2, s2, Nat.le_refl _, ?_, ?_, c4, c5, c6, c7, c8, c9⟩
    · have e1 : f_X11_season_s44 χ2 (nI m) (nI 0) (nI (ip T.2 m)) = some (.inr (nI m, nI 0, χ2)) := by
        unfold f_X11_season_s44
        rw [c6.2.2.1 1 (by omega), hT.2.1, hLm, if_pos (nI_le (Nat.le_refl _) (by omega))]
      rw [c2, show F = (F - 1) + 1 by omega, it_x _ e1, if_neg (Nat.lt_irrefl m)]
    · have e2 : f_X12_season_s64 s2 (nI m) = some (.inr (nI m, s2)) := by
        unfold f_X12_season_s64
        rw [show cF s2 300 26 = nI m by rw [c7.1]; exact hn, if_pos (nI_le (Nat.le_refl _) (by omega))]
      rw [c3, show F = (F - 1) + 1 by omega, it_x _ e2]
  · exact ⟨i, B', χ2, s2, by omega, by rw [if_pos c1]; exact c2, c3, c4⟩
