/-! LAYER 2: copies of beds and rows. -/
theorem BC_.mv {b b1 : Nat} {B : Bd_} {χ s : St} (h : BC_ b1 B χ) (W : WB B) (h5 : cF s b 5 = cF χ b1 5) (h6 : cF s b 6 = cF χ b1 6) (h7 : cF s b 7 = cF χ b1 7) (hA : ∀ j, 1 ≤ j → j ≤ 5 → ∀ i, i < 8 → cA s (b + j) i = cA χ (b1 + j) i) : BC_ b B s := by
  have h8 := W.1
  obtain ⟨a1, a2, a3, a4⟩ := h
  refine ⟨h5.trans a1, h6.trans a2, h7.trans a3, fun k hk => ?_⟩
  rw [hA 1 (by omega) (by omega) k (by omega), hA 2 (by omega) (by omega) k (by omega), hA 3 (by omega) (by omega) k (by omega), hA 4 (by omega) (by omega) k (by omega), hA 5 (by omega) (by omega) k (by omega)]
  exact a4 k hk
theorem BR.mv {r o r' o' : Nat} {B : Bd_} {σ s : St} (h : BR r o B σ) (W : WB B) (h3 : cF s 300 3 = cF σ 300 3) (hK : cA s 305 = cA σ 305) (hA : ∀ i, i < 34 → cA s r' (o' + i) = cA σ r (o + i)) : BR r' o' B s := by
  have h8 := W.1
  obtain ⟨a1, a2, a3, a4, a5⟩ := h
  refine ⟨h3.trans a1, (hA 32 (by omega)).trans a2, (hA 33 (by omega)).trans a3, fun k hk => ?_, fun k hk hk2 => ?_⟩
  · obtain ⟨c0, c1, c2, c3, c4⟩ := a4 k hk
    exact ⟨by rw [hK]; exact c0, (hA k (by omega)).trans c1, (hA (8 + k) (by omega)).trans c2, (hA (16 + k) (by omega)).trans c3, (hA (24 + k) (by omega)).trans c4⟩
  · obtain ⟨c0, c1⟩ := a5 k hk hk2
    exact ⟨(hA (16 + k) (by omega)).trans c0, (hA (24 + k) (by omega)).trans c1⟩
/-- copyFrom: all of b1 comes to b -/
theorem x0_co {b b1 w : Nat} {χ : St} (hb : b + 5 < b1 ∨ b1 + 5 < b) : ∃ s, f_X0_copyFrom χ b b1 = some s ∧ FC_ b w χ s ∧ cF s b 5 = cF χ b1 5 ∧ cF s b 6 = cF χ b1 6 ∧ cF s b 7 = cF χ b1 7 ∧ ∀ j, 1 ≤ j → j ≤ 5 → ∀ i, i < 8 → cA s (b + j) i = cA χ (b1 + j) i := by
  obtain ⟨s, e, hF, h1, hA⟩ : ∃ s, iter (fun z : Int32 × St => f_X0_copyFrom_s2 b b1 z.2 z.1) FU ((0 : Int32), χ) = some s ∧ FC_ b w χ s ∧ cF s = cF χ ∧ ∀ j, 1 ≤ j → j ≤ 5 → ∀ i, i < 8 → cA s (b + j) i = cA χ (b1 + j) i := by
    refine it_inv (fun k z => z.1 = nI k ∧ FC_ b w χ z.2 ∧ cF z.2 = cF χ ∧ (∀ j, 1 ≤ j → j ≤ 5 → cA z.2 (b1 + j) = cA χ (b1 + j)) ∧ ∀ j, 1 ≤ j → j ≤ 5 → ∀ i, i < k → cA z.2 (b + j) i = cA χ (b1 + j) i) _ 8 (by omega) ⟨rfl, FC_.rf _ _ _, rfl, fun _ _ _ => rfl, fun _ _ _ i hi => absurd hi (Nat.not_lt_zero _)⟩ (fun k z hk hI => ?_) (fun z hI => ?_)
    · obtain ⟨z1, s⟩ := z
      obtain ⟨rfl, hF, h1, h2, hA⟩ := hI
      dsimp only at hF h1 h2 hA
      show ∃ s', f_X0_copyFrom_s2 b b1 s (nI k) = some (.inl s') ∧ _
      unfold f_X0_copyFrom_s2
      simp (disch := omega) only [li_1, li_8, c_leF, gd_n, nI_clamp, nI_add, rAp]
      refine ⟨_, rfl, rfl, ((((hF.sA (by omega)).sA (by omega)).sA (by omega)).sA (by omega)).sA (by omega), h1, fun j hj hj2 => ?_, fun j hj hj2 i hi => ?_⟩
      · dsimp only
        rw [rAp (by omega), rAp (by omega), rAp (by omega), rAp (by omega), rAp (by omega)]
        exact h2 j hj hj2
      · dsimp only
        have hc : j = 1 ∨ j = 2 ∨ j = 3 ∨ j = 4 ∨ j = 5 := by omega
        by_cases hik : i = k
        · subst hik
          rcases hc with rfl | rfl | rfl | rfl | rfl
          · rw [rAp (by omega), rAp (by omega), rAp (by omega), rAp (by omega), rAs, h2 1 (by omega) (by omega)]
          · rw [rAp (by omega), rAp (by omega), rAp (by omega), rAs, h2 2 (by omega) (by omega)]
          · rw [rAp (by omega), rAp (by omega), rAs, h2 3 (by omega) (by omega)]
          · rw [rAp (by omega), rAs, h2 4 (by omega) (by omega)]
          · rw [rAs, h2 5 (by omega) (by omega)]
        · have hA2 := hA j hj hj2 i (by omega)
          rcases hc with rfl | rfl | rfl | rfl | rfl
          · rw [rAp (by omega), rAp (by omega), rAp (by omega), rAp (by omega), rAj hik]; exact hA2
          · rw [rAp (by omega), rAp (by omega), rAp (by omega), rAj hik, rAp (by omega)]; exact hA2
          · rw [rAp (by omega), rAp (by omega), rAj hik, rAp (by omega), rAp (by omega)]; exact hA2
          · rw [rAp (by omega), rAj hik, rAp (by omega), rAp (by omega), rAp (by omega)]; exact hA2
          · rw [rAj hik, rAp (by omega), rAp (by omega), rAp (by omega), rAp (by omega)]; exact hA2
    · obtain ⟨z1, s⟩ := z
      obtain ⟨rfl, hF, h1, h2, hA⟩ := hI
      refine ⟨s, ?_, hF, h1, hA⟩
      show f_X0_copyFrom_s2 b b1 s (nI 8) = _
      unfold f_X0_copyFrom_s2
      simp (disch := omega) only [li_8, c_leT]
  refine ⟨_, ?_, ((hF.sF (i := 5) (x := cF χ b1 5)).sF (i := 6) (x := cF χ b1 6)).sF (i := 7) (x := cF χ b1 7), ?_, ?_, ?_, hA⟩
  · unfold f_X0_copyFrom
    rw [bi_nd e]
    simp (disch := omega) only [rFp, h1]
  · rw [rFj (by omega), rFj (by omega), rFs]
  · rw [rFj (by omega), rFs]
  · rw [rFs]
theorem x0_cb {b b1 w : Nat} {B : Bd_} {χ : St} (hb : b + 5 < b1 ∨ b1 + 5 < b) (W : WB B) (h : BC_ b1 B χ) : ∃ s, f_X0_copyFrom χ b b1 = some s ∧ FC_ b w χ s ∧ BC_ b B s := by
  obtain ⟨s, e, hF, h5, h6, h7, hA⟩ := x0_co (w := w) (χ := χ) hb
  exact ⟨s, e, hF, h.mv W h5 h6 h7 hA⟩
/-- a loop that writes number k of row p at place o + k -/
theorem it_row {step : Int32 × St → Option ((Int32 × St) ⊕ St)} {σ : St} {p o N : Nat} {f : Nat → Int32} (hN : N < 4096) (hs : ∀ k s, k < N → cF s = cF σ → cL s = cL σ → cW s = cW σ → (∀ q, q ≠ p → cA s q = cA σ q) → (∀ i, i < o ∨ o + k ≤ i → cA s p i = cA σ p i) → step (nI k, s) = some (.inl (nI (k + 1), sA s p (o + k) (f k)))) (hx : ∀ s, cF s = cF σ → step (nI N, s) = some (.inr s)) :
    ∃ s, iter step FU ((0 : Int32), σ) = some s ∧ cF s = cF σ ∧ cL s = cL σ ∧ cW s = cW σ ∧ (∀ q, q ≠ p → cA s q = cA σ q) ∧ (∀ i, i < N → cA s p (o + i) = f i) ∧ ∀ i, i < o ∨ o + N ≤ i → cA s p i = cA σ p i := by
  refine it_inv (fun k z => z.1 = nI k ∧ cF z.2 = cF σ ∧ cL z.2 = cL σ ∧ cW z.2 = cW σ ∧ (∀ q, q ≠ p → cA z.2 q = cA σ q) ∧ (∀ i, i < k → cA z.2 p (o + i) = f i) ∧ ∀ i, i < o ∨ o + k ≤ i → cA z.2 p i = cA σ p i) _ N hN ⟨rfl, rfl, rfl, rfl, fun _ _ => rfl, fun i hi => absurd hi (Nat.not_lt_zero _), fun _ _ => rfl⟩ (fun k z hk hI => ?_) (fun z hI => ?_)
  · obtain ⟨z1, s⟩ := z
    obtain ⟨rfl, h1, h2, h3, h4, h5, h6⟩ := hI
    refine ⟨_, hs k s hk h1 h2 h3 h4 h6, rfl, h1, h2, h3, fun q hq => (rAp hq).trans (h4 q hq), fun i hi => ?_, fun i hi => ?_⟩
    · dsimp only
      by_cases e : i = k
      · subst e; rw [rAs]
      · rw [rAj (by omega)]; exact h5 i (by omega)
    · dsimp only
      rw [rAj (by omega)]
      exact h6 i (by omega)
  · obtain ⟨z1, s⟩ := z
    obtain ⟨rfl, h1, h2, h3, h4, h5, h6⟩ := hI
    exact ⟨s, hx s h1, h1, h2, h3, h4, h5, h6⟩
theorem x12_cp {σ : St} : ∃ s, f_X12_copies σ = some s ∧ cF s = cF σ ∧ cL s = cL σ ∧ cW s = cW σ ∧ (∀ q, q ≠ 307 → cA s q = cA σ q) ∧ ∀ i, i < 34 → cA s 307 i = cA σ 306 i := by
  obtain ⟨s, e, h1, h2, h3, h4, h5, -⟩ := it_row (step := fun z : Int32 × St => f_X12_copies_s2 z.2 z.1) (σ := σ) (p := 307) (o := 0) (N := 34) (f := fun k => cA σ 306 k) (by omega)
    (fun k s hk h1 h2 h3 h4 h5 => by
      show f_X12_copies_s2 s (nI k) = _
      unfold f_X12_copies_s2
      simp (disch := omega) only [li_1, li_34, c_leF, gd_n, nI_clamp, nI_add, h4, Nat.zero_add])
    (fun s h1 => by
      show f_X12_copies_s2 s (nI 34) = _
      unfold f_X12_copies_s2
      simp (disch := omega) only [li_34, c_leT])
  refine ⟨s, ?_, h1, h2, h3, h4, fun i hi => by have := h5 i hi; rwa [Nat.zero_add] at this⟩
  unfold f_X12_copies
  exact bi_nd e
theorem x12_pb {σ : St} {u : Nat} (hu : cF σ 300 21 = nI u) (h15 : u ≤ 15) : ∃ s, f_X12_putsBy σ = some s ∧ cF s = cF σ ∧ cL s = cL σ ∧ cW s = cW σ ∧ (∀ q, q ≠ 322 → cA s q = cA σ q) ∧ (∀ i, i < 34 → cA s 322 (34 * u + i) = cA σ 306 i) ∧ ∀ i, i < 34 * u → cA s 322 i = cA σ 322 i := by
  obtain ⟨s, e, h1, h2, h3, h4, h5, h6⟩ := it_row (step := fun z : Int32 × St => f_X12_putsBy_s2 z.2 z.1) (σ := σ) (p := 322) (o := 34 * u) (N := 34) (f := fun k => cA σ 306 k) (by omega)
    (fun k s hk h1 h2 h3 h4 h5 => by
      show f_X12_putsBy_s2 s (nI k) = _
      unfold f_X12_putsBy_s2
      simp (disch := omega) only [li_1, li_34, h1, hu, pk_mul, c_leF, gd_n, nI_clamp, nI_add, h4])
    (fun s h1 => by
      show f_X12_putsBy_s2 s (nI 34) = _
      unfold f_X12_putsBy_s2
      simp (disch := omega) only [li_34, c_leT])
  refine ⟨s, ?_, h1, h2, h3, h4, h5, fun i hi => h6 i (Or.inl hi)⟩
  unfold f_X12_putsBy
  exact bi_nd e
