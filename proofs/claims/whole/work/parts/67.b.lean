/-! LAYER 2: oysters laid in the bed. -/
def ad_B (B : Bd_) (f : Nat → Nat) (j : Nat) : Bd_ := (B.1 + j, fun i l => if l < B.1 then B.2.1 i l else if i = 0 then kt_ (f (5 * (l - B.1))) else if i = 1 then f (5 * (l - B.1) + 1) - 48 else if i = 2 then lv_ f (5 * (l - B.1)) else 0, B.2.2.1, B.2.2.2)
theorem x0_adm {χ : St} {b n : Nat} {a c d : Int32} (h : cF χ b 5 = nI n) (hn : n < 8) : f_X0_admit χ b a c d = some (sF (sA (sA (sA (sA (sA χ (b + 1) n a) (b + 2) n c) (b + 3) n d) (b + 4) n 0) (b + 5) n 0) b 5 (nI (n + 1))) := by
  unfold f_X0_admit
  simp (disch := omega) only [rFA, h, gd_n, nI_clamp, nI_1]
  rw [if_neg (show ¬ (8 : Int32) ≤ nI n from nI_ge (b := 8) hn (by omega))]
theorem x12_lay {σ : St} {n x : Nat} {a c d : Int32} (h : cF σ 300 3 = nI n) (hn : n < 8) (hx : x < 8) (h14 : ¬ cF σ 300 14 ≤ nI x) (ha : cA σ 313 (3 * x) = a) (hc : cA σ 313 (3 * x + 1) = c) (hd : cA σ 313 (3 * x + 2) = d) : f_X12_oysters_s81 σ (nI x) = some (.inl (nI (x + 1), sF (sA (sA (sA σ 305 n a) 306 n c) 306 (8 + n) d) 300 3 (nI (n + 1)))) := by
  unfold f_X12_oysters_s81
  rw [if_neg h14, show (3 : Int32) = nI 3 from rfl, show (2 : Int32) = nI 2 from rfl, show (8 : Int32) = nI 8 from rfl, pk_mul]
  simp (disch := omega) only [rFA, h, gd_n, nI_clamp, nI_1, nI_add, rAp, ha, hc, hd]
theorem ki_c : ∀ c, c < 256 → lt_ c = true → f_X11_kindOf (nI c) = some (nI (kt_ c)) := by decide +kernel
theorem ad_0 (B : Bd_) (f : Nat → Nat) (j k : Nat) : (ad_B B f k).2.1 0 (B.1 + j) = kt_ (f (5 * j)) ∧ (ad_B B f k).2.1 1 (B.1 + j) = f (5 * j + 1) - 48 ∧ (ad_B B f k).2.1 2 (B.1 + j) = lv_ f (5 * j) ∧ (ad_B B f k).2.1 3 (B.1 + j) = 0 ∧ (ad_B B f k).2.1 4 (B.1 + j) = 0 := by
  unfold ad_B
  dsimp only
  rw [if_neg (show ¬ B.1 + j < B.1 by omega), if_neg (show ¬ B.1 + j < B.1 by omega), if_neg (show ¬ B.1 + j < B.1 by omega), if_neg (show ¬ B.1 + j < B.1 by omega), if_neg (show ¬ B.1 + j < B.1 by omega), Nat.add_sub_cancel_left]
  exact ⟨rfl, rfl, rfl, rfl, rfl⟩
theorem bc_ly {b j : Nat} {B : Bd_} {f : Nat → Nat} {χ : St} (h : BC_ b (ad_B B f j) χ) : BC_ b (ad_B B f (j + 1)) (sF (sA (sA (sA (sA (sA χ (b + 1) (B.1 + j) (nI (kt_ (f (5 * j))))) (b + 2) (B.1 + j) (nI (f (5 * j + 1) - 48))) (b + 3) (B.1 + j) (nI (lv_ f (5 * j)))) (b + 4) (B.1 + j) 0) (b + 5) (B.1 + j) 0) b 5 (nI (B.1 + j + 1))) := by
  obtain ⟨h1, h2, h3, h4⟩ := h
  refine ⟨rFs, (rFj (by omega)).trans h2, (rFj (by omega)).trans h3, fun l hl => ?_⟩
  have hl2 : l < B.1 + (j + 1) := hl
  by_cases e : l = B.1 + j
  · subst e
    obtain ⟨a0, a1, a2, a3, a4⟩ := ad_0 B f j (j + 1)
    rw [a0, a1, a2, a3, a4]
    refine ⟨?_, ?_, ?_, ?_, ?_⟩ <;> simp (disch := omega) only [rAF, rAp, rAs] <;> rfl
  · obtain ⟨a0, a1, a2, a3, a4⟩ := h4 l (show l < B.1 + j by omega)
    refine ⟨?_, ?_, ?_, ?_, ?_⟩ <;> simp (disch := omega) only [rAF, rAp, rAj]
    · exact a0
    · exact a1
    · exact a2
    · exact a3
    · exact a4
theorem br_ly {j : Nat} {B : Bd_} {f : Nat → Nat} {σ : St} (h : BR 306 0 (ad_B B f j) σ) (hn : B.1 + j < 8) : BR 306 0 (ad_B B f (j + 1)) (sF (sA (sA (sA σ 305 (B.1 + j) (nI (kt_ (f (5 * j))))) 306 (B.1 + j) (nI (f (5 * j + 1) - 48))) 306 (8 + (B.1 + j)) (nI (lv_ f (5 * j)))) 300 3 (nI (B.1 + j + 1))) := by
  obtain ⟨h1, h2, h3, h4, h5⟩ := h
  refine ⟨rFs, ?_, ?_, fun l hl => ?_, fun k hk hk2 => ?_⟩
  · rw [rAF, rAj (by omega), rAj (by omega), rAp (by omega)]; exact h2
  · rw [rAF, rAj (by omega), rAj (by omega), rAp (by omega)]; exact h3
  · have hl2 : l < B.1 + (j + 1) := hl
    by_cases e : l = B.1 + j
    · subst e
      obtain ⟨a0, a1, a2, a3, a4⟩ := ad_0 B f j (j + 1)
      obtain ⟨z3, z4⟩ := h5 (B.1 + j) (Nat.le_refl _) hn
      rw [a0, a1, a2, a3, a4]
      refine ⟨?_, ?_, ?_, ?_, ?_⟩
      · rw [rAF, rAp (by omega), rAp (by omega), rAs]
      · rw [rAF, Nat.zero_add, rAj (by omega), rAs]
      · rw [rAF, Nat.zero_add, rAs]
      · rw [rAF, rAj (by omega), rAj (by omega), rAp (by omega)]; exact z3
      · rw [rAF, rAj (by omega), rAj (by omega), rAp (by omega)]; exact z4
    · obtain ⟨a0, a1, a2, a3, a4⟩ := h4 l (show l < B.1 + j by omega)
      refine ⟨?_, ?_, ?_, ?_, ?_⟩
      · rw [rAF, rAp (by omega), rAp (by omega), rAj e]; exact a0
      · rw [rAF, rAj (by omega), rAj (by omega), rAp (by omega)]; exact a1
      · rw [rAF, rAj (by omega), rAj (by omega), rAp (by omega)]; exact a2
      · rw [rAF, rAj (by omega), rAj (by omega), rAp (by omega)]; exact a3
      · rw [rAF, rAj (by omega), rAj (by omega), rAp (by omega)]; exact a4
  · have hk3 : B.1 + (j + 1) ≤ k := hk
    obtain ⟨z3, z4⟩ := h5 k (show B.1 + j ≤ k by omega) hk2
    refine ⟨?_, ?_⟩
    · rw [rAF, rAj (by omega), rAj (by omega), rAp (by omega)]; exact z3
    · rw [rAF, rAj (by omega), rAj (by omega), rAp (by omega)]; exact z4
theorem wb_ad {B : Bd_} {f : Nat → Nat} {j : Nat} (W : WB B) (h8 : B.1 + j ≤ 8) (hk : ∀ i, i < j → f (5 * i + 1) - 48 ≤ 9 ∧ lv_ f (5 * i) ≤ 15) : WB (ad_B B f j) := by
  refine ⟨h8, fun l hl => ?_⟩
  have hl2 : l < B.1 + j := hl
  by_cases e : l < B.1
  · have := W.2 l e
    unfold ad_B
    dsimp only
    rw [if_pos e, if_pos e, if_pos e, if_pos e, if_pos e]
    exact this
  · obtain ⟨i, rfl⟩ : ∃ i, l = B.1 + i := ⟨l - B.1, by omega⟩
    obtain ⟨a0, a1, a2, a3, a4⟩ := ad_0 B f i j
    obtain ⟨k1, k2⟩ := hk i (by omega)
    rw [a0, a1, a2, a3, a4]
    refine ⟨?_, k1, k2, by omega, by omega⟩
    unfold kt_
    split
    · omega
    · split <;> omega
