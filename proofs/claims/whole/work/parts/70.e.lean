/-! LAYER 2: more oysters than before. -/
theorem rl_oy {B B' : Bd_} {T T' : Nat × (Nat → Nat)} {m m' : Nat} {C : Lw} {χ χ' σ σ' : St} (h : Rl_ B T m C χ σ) (hn : B.1 < B'.1) (hW : WB B') (hb : BC_ 32 B' χ') (hr : BR 306 0 B' σ') (hT : RT T' χ' σ') (hO : RO m' χ' σ') (u1 : cF χ' 5 1 = cF χ 5 1) (u2 : cF χ' 5 2 = nI 0) (u3 : cF σ' 300 21 = nI 0) (c4 : cF σ' 300 4 = cF σ 300 4 + 1) (w1 : cW χ' = cW χ) (f3 : ∀ p, p = 9 ∨ p = 13 ∨ p = (cW χ).1 ∨ (168 ≤ p ∧ p < 300) → cF χ' p = cF χ p) (f4 : ∀ p, p = 8 ∨ (10 ≤ p ∧ p ≤ 15) ∨ p = (cW χ).1 + 1 → cA χ' p = cA χ p) (g1 : ∀ j, j = 17 ∨ j = 27 ∨ j = 31 → cF σ' 300 j = cF σ 300 j) (g3 : ∀ p, p = 315 ∨ p = 328 ∨ p = 329 ∨ p = 332 ∨ p = 333 ∨ p = 338 ∨ p = 339 → cA σ' p = cA σ p) : Rl_ B' T' m' C χ' σ' := by
  refine ⟨hW, hb, hr, hT, hO, ?_, ?_, ?_, ?_, ?_⟩
  · obtain ⟨pl, u, p1, p2, p3, -⟩ := h.U
    exact ⟨pl, 0, p1, by omega, u1.trans p3, u2, u3, fun j hj => absurd hj (Nat.not_lt_zero j)⟩
  · obtain ⟨ch, h1, h2, h3⟩ := h.K
    refine ⟨ch + 1, by omega, by rw [c4, h2, nI_1], fun i hi => ?_⟩
    rw [f4 8 (by omega), g3 338 (by omega)]
    rcases h3 i hi with q | ⟨q1, q2, s, kc, s1, s2, s3, s4, s5, s6⟩
    · exact Or.inl q
    · refine Or.inr ⟨q1, q2, s, kc, by omega, by omega, ?_, ?_, ⟨fun x => absurd x (by omega), fun x => absurd x (by omega)⟩, fun x => absurd x (by omega)⟩
      · rw [f3 _ (by omega)]; exact s3
      · rw [g3 339 (by omega)]; exact s4
  · exact h.S.cg (f3 9 (by omega)) (f4 10 (by omega)) (f4 11 (by omega)) (f4 12 (by omega)) (g1 27 (by omega)) (g3 328 (by omega)) (g3 329 (by omega))
  · exact h.H.cg (f3 13 (by omega)) (f4 14 (by omega)) (f4 15 (by omega)) (g1 31 (by omega)) (g3 332 (by omega)) (g3 333 (by omega))
  · exact h.L.cg w1 (f3 _ (by omega)) (f4 _ (by omega)) (g1 17 (by omega)) (g3 315 (by omega))
