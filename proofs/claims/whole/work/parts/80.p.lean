/-! LAYER 2: law. -/
def cq_ (B : Bd_) (C : Lw) (q : Nat) : Nat := cn (clP B C (q / 10) (q % 10)) B.1
theorem x0_cls {w b : Nat} {B : Bd_} {C : Lw} {χ : St} (hw : w < 22) (hb : 27 ≤ b) (W : WB B) (h : BC_ b B χ) (hC : WC C) (hL : LC_ w C χ) : ∃ s, f_X0_closings χ b w = some (nI (su (cq_ B C) 40), s) ∧ SV (w + 4) χ s := by
  have h8 := W.1
  unfold f_X0_closings
  obtain ⟨x, e1, h1, h2⟩ := it_inv (step := fun z : Int32 × Int32 × St => f_X0_closings_s4 b w z.2.2 z.1 z.2.1) (s := ((0 : Int32), (0 : Int32), χ)) (fun (k : Nat) (z : Int32 × Int32 × St) => z.1 = nI (su (cq_ B C) k) ∧ z.2.1 = nI k ∧ SV (w + 4) χ z.2.2) (fun x => x.1 = nI (su (cq_ B C) 40) ∧ SV (w + 4) χ x.2) 40 (by omega) ⟨rfl, rfl, SV.rf _ _⟩
    (fun k z hk hI => by
      obtain ⟨z1, z2, s⟩ := z
      obtain ⟨rfl, rfl, hS⟩ := hI
      dsimp only at hS
      have hB2 : BC_ b B s := h.cg (by rw [hS.1]) (fun j h1 h2 => hS.2.2.2 _ (by omega))
      have hL2 : LC_ w C s := hL.cg (by rw [hS.1]) (hS.2.2.2 _ (by omega))
      obtain ⟨s', e, hs⟩ := x0_cl (wd := k % 10) hw hb W hB2 hC hL2 (t := k / 10) (by omega)
      show ∃ s', f_X0_closings_s4 b w s (nI (su (cq_ B C) k)) (nI k) = some (.inl s') ∧ _
      unfold f_X0_closings_s4
      rw [if_neg (show ¬ (40 : Int32) ≤ nI k from nI_ge (b := 40) hk (by omega)), show (10 : Int32) = nI 10 from rfl, pk_div (by omega) (by omega) (by omega), pk_rn 10 (by omega) (by omega) (by omega), bi_nd e]
      dsimp only
      rw [bi_nd (bc_bi _ (by omega)), nI_add, nI_1]
      exact ⟨_, rfl, rfl, rfl, hS.tr hs⟩)
    (fun z hI => by
      obtain ⟨z1, z2, s⟩ := z
      obtain ⟨rfl, rfl, hS⟩ := hI
      dsimp only at hS
      show ∃ x, f_X0_closings_s4 b w s (nI (su (cq_ B C) 40)) (nI 40) = some (.inr x) ∧ _
      unfold f_X0_closings_s4
      rw [if_pos (show (40 : Int32) ≤ nI 40 by decide)]
      exact ⟨_, rfl, rfl, hS⟩)
  obtain ⟨x1, x2⟩ := x
  dsimp only at h1 h2
  subst h1
  exact ⟨x2, bi_nd e1, h2⟩
theorem x12_cal {B : Bd_} {C : Lw} {σ : St} (W : WB B) (h : BR 306 0 B σ) (hC : WC C) (hL : LR_ C σ) : ∃ s, f_X12_closingAll σ = some (nI (su (cq_ B C) 40), s) ∧ SE_ σ s := by
  have h8 := W.1
  unfold f_X12_closingAll
  obtain ⟨x, e1, h1, h2⟩ := it_inv (step := fun z : Int32 × Int32 × St => f_X12_closingAll_s4 z.2.2 z.1 z.2.1) (s := ((0 : Int32), (0 : Int32), σ)) (fun (k : Nat) (z : Int32 × Int32 × St) => z.1 = nI (su (cq_ B C) k) ∧ z.2.1 = nI k ∧ SE_ σ z.2.2) (fun x => x.1 = nI (su (cq_ B C) 40) ∧ SE_ σ x.2) 40 (by omega) ⟨rfl, rfl, SE_.rf _⟩
    (fun k z hk hI => by
      obtain ⟨z1, z2, s⟩ := z
      obtain ⟨rfl, rfl, hS⟩ := hI
      dsimp only at hS
      have hB2 : BR 306 0 B s := h.cg (by rw [hS.1]) (hS.2.2.2 305 (by omega) (by omega)) (hS.2.2.2 306 (by omega) (by omega))
      have hL2 : LR_ C s := hL.cg (by rw [hS.1]) (hS.2.2.2 315 (by omega) (by omega))
      obtain ⟨s', e, hs⟩ := x12_cl (r := 306) (wd := k % 10) ⟨by omega, by omega⟩ W hB2 hC hL2 (t := k / 10) (by omega)
      show ∃ s', f_X12_closingAll_s4 s (nI (su (cq_ B C) k)) (nI k) = some (.inl s') ∧ _
      unfold f_X12_closingAll_s4
      rw [if_neg (show ¬ (40 : Int32) ≤ nI k from nI_ge (b := 40) hk (by omega)), show (10 : Int32) = nI 10 from rfl, pk_div (by omega) (by omega) (by omega), pk_rn 10 (by omega) (by omega) (by omega), bi_nd e]
      dsimp only
      rw [bi_nd (bc_bi _ (by omega)), nI_add, nI_1]
      exact ⟨_, rfl, rfl, rfl, hS.tr hs⟩)
    (fun z hI => by
      obtain ⟨z1, z2, s⟩ := z
      obtain ⟨rfl, rfl, hS⟩ := hI
      dsimp only at hS
      show ∃ x, f_X12_closingAll_s4 s (nI (su (cq_ B C) 40)) (nI 40) = some (.inr x) ∧ _
      unfold f_X12_closingAll_s4
      rw [if_pos (show (40 : Int32) ≤ nI 40 by decide)]
      exact ⟨_, rfl, rfl, hS⟩)
  obtain ⟨x1, x2⟩ := x
  dsimp only at h1 h2
  subst h1
  exact ⟨x2, bi_nd e1, h2⟩
/-- the rule's code set aside -/
theorem x12_lx {y2 y3 : Int32} {n : Nat} {σ : St} (h : cF σ 300 17 = nI n) (hn : n ≤ 80) : ∃ s', iter (fun z : Int32 × St => f_X12_law_s35 z.2 y2 y3 z.1) FU ((0 : Int32), σ) = some s' ∧ cL s' = cL σ ∧ cF s' = cF σ ∧ (∀ p, p ≠ 336 → cA s' p = cA σ p) ∧ ∀ i, i < n → cA s' 336 i = cA σ 315 i := by
  obtain ⟨x, e1, h1, h2, h3, h4⟩ := it_inv (step := fun z : Int32 × St => f_X12_law_s35 z.2 y2 y3 z.1) (s := ((0 : Int32), σ)) (fun (k : Nat) (z : Int32 × St) => z.1 = nI k ∧ cL z.2 = cL σ ∧ cF z.2 = cF σ ∧ (∀ p, p ≠ 336 → cA z.2 p = cA σ p) ∧ ∀ i, i < k → cA z.2 336 i = cA σ 315 i) (fun x => cL x = cL σ ∧ cF x = cF σ ∧ (∀ p, p ≠ 336 → cA x p = cA σ p) ∧ ∀ i, i < n → cA x 336 i = cA σ 315 i) n (by omega) ⟨rfl, rfl, rfl, fun _ _ => rfl, fun i hi => absurd hi (Nat.not_lt_zero i)⟩
    (fun k z hk hI => by
      obtain ⟨z1, s⟩ := z
      obtain ⟨rfl, i1, i2, i3, i4⟩ := hI
      dsimp only at i1 i2 i3 i4
      show ∃ s', f_X12_law_s35 s y2 y3 (nI k) = some (.inl s') ∧ _
      unfold f_X12_law_s35
      rw [i2, h, if_neg (nI_ge hk (by omega)), gd_n (by omega) (by omega), gd_n (by omega) (by omega), nI_clamp (by omega), nI_1]
      refine ⟨_, rfl, rfl, i1, i2, fun p hp => (rAp hp).trans (i3 p hp), fun i hi => ?_⟩
      by_cases q : i = k
      · subst q; rw [rAs, i3 315 (by omega)]
      · rw [rAj q]; exact i4 i (by omega))
    (fun z hI => by
      obtain ⟨z1, s⟩ := z
      obtain ⟨rfl, i1, i2, i3, i4⟩ := hI
      dsimp only at i1 i2 i3 i4
      show ∃ x, f_X12_law_s35 s y2 y3 (nI n) = some (.inr x) ∧ _
      unfold f_X12_law_s35
      rw [i2, h, if_pos (nI_le (Nat.le_refl _) (by omega))]
      exact ⟨_, rfl, i1, i2, i3, i4⟩)
  exact ⟨x, e1, h1, h2, h3, h4⟩
theorem lw_m : ∀ e, e < 100 → ((-1 : Int32) - nI e + (1 : Int32)) - (100000 : Int32) = (-100000 : Int32) - nI e := by decide +kernel
theorem y_45 (χ σ : St) (h : Rel_ χ σ) : ∃ (v : Int32) (χ1 : St) (σ1 : St), f_X11_law χ = some (v, χ1) ∧ f_X12_law σ = some (v, σ1) ∧ Rel_ χ1 σ1 := by
  obtain ⟨B, T, m, C, h⟩ := h
  have h0 := h.th
  have h8 := h.W.1
  unfold f_X11_law f_X12_law
  generalize sF σ 300 0 (0 : Int32) = σ0 at h0 ⊢
  have hw := h0.L.w
  obtain ⟨t1, t2, t3, t4⟩ := id h0.tx
  obtain ⟨q, s', e2, z1, z2, z3, z4, hz⟩ := rl_rd (w := (cW χ).2) (by omega) h0.tx
  rw [gd_t h0.L.i2, bi_nd e2]
  dsimp only
  have hcut : ∀ χa : St, LF_ (cW χ).2 χ χa → f_X8_cutTo χa (0 : Int32) = some (1, sF χa 1 1 0) := fun χa ha => by
    unfold f_X8_cutTo
    rw [if_neg (by decide), ha.2.2.1 1 (by omega), t2, if_pos (show (0 : Int32) ≤ nI T.1 from nI_le (a := 0) (by omega) (by omega))]
  rcases hz with ⟨χ1, C', n, rfl, e1, k1, k2, k3, k4, k5, k6⟩ | ⟨χ1, e, k0, rfl, e1, k2⟩
  · -- the class
    have hcW : cW (sF χ1 1 1 0) = cW χ := k2.2.1
    have hb1 : BC_ 32 B (sF χ1 1 1 0) := h0.b.cg ((rFp (by omega)).trans (k2.2.2.1 32 (by omega))) (fun j _ _ => k2.2.2.2 _ (by omega) (by omega) (by omega))
    have hl2 : LC_ (cW χ).2 C' (sF χ1 1 1 0) := k1.cg (rFp (by omega)) rfl
    have hl1 : LC_ (cW χ).1 C (sF χ1 1 1 0) := h0.L.2.2.1.cg ((rFp (by omega)).trans (k2.2.2.1 _ (by omega))) (k2.2.2.2 _ (by omega) (by omega) (by omega))
    obtain ⟨χ2, e3, v2⟩ := x0_cls (w := (cW χ).2) (b := 32) (by omega) (by omega) h0.W hb1 k3 hl2
    have hb2 : BC_ 32 B χ2 := hb1.cg (by rw [v2.1]) (fun j _ _ => v2.2.2.2 _ (by omega))
    have hl3 : LC_ (cW χ).1 C χ2 := hl1.cg (by rw [v2.1]) (v2.2.2.2 _ (by omega))
    obtain ⟨χ3, e4, v3⟩ := x0_cls (w := (cW χ).1) (b := 32) (by omega) (by omega) h0.W hb2 h0.L.2.1 hl3
    have hl4 : LC_ (cW χ).1 C χ3 := hl3.cg (by rw [v3.1]) (v3.2.2.2 _ (by omega))
    have cW3 : cW χ3 = cW χ := v3.2.2.1.trans (v2.2.2.1.trans hcW)
    have cW2 : cW χ2 = cW χ := v2.2.2.1.trans hcW
    -- the reference
    have hr1 : BR 306 0 B s' := h0.r.cg (z3 3 (by omega) (by omega) (by omega) (by omega) (by omega)) (z4 305 (by omega)) (z4 306 (by omega))
    have hlr1 : LR_ C s' := h0.L.2.2.2.cg (z3 17 (by omega) (by omega) (by omega) (by omega) (by omega)) (z4 315 (by omega))
    obtain ⟨s2, e5, w2⟩ := x12_cal h0.W hr1 h0.L.2.1 hlr1
    have hn0 : ∃ n0, n0 ≤ 40 ∧ cF σ0 300 17 = nI n0 := by
      rcases h0.L.2.2.2 with ⟨a, -⟩ | ⟨a, -⟩
      · exact ⟨0, by omega, a⟩
      · exact ⟨C.1, h0.L.2.1.1, a⟩
    obtain ⟨n0, n40, hn0⟩ := hn0
    have g17 : cF s2 300 17 = nI n0 := by rw [w2.1, z3 17 (by omega) (by omega) (by omega) (by omega) (by omega)]; exact hn0
    obtain ⟨s3, e6, p1, p2, p3, p4⟩ := x12_lx (y2 := nI (su (cq_ B C) 40)) (y3 := cF s2 300 17) g17 (by omega)
    have g18 : cF s3 300 18 = nI n := by rw [p2, w2.1]; exact k5
    obtain ⟨s4, e7, a1, a2, a3, a4, a5⟩ := x12_ly (σ := s3) (r := 316) (n := n) (by omega) (by omega)
    have hlr4 : LR_ C' s4 := by
      rcases k6 with ⟨rfl, rfl⟩ | ⟨rfl, k6⟩
      · exact Or.inl ⟨a2, rfl⟩
      · exact Or.inr ⟨a2, fun i hi => (a5 i hi).trans (by rw [p3 316 (by omega), w2.2.2.2 316 (by omega) (by omega)]; exact k6 i hi)⟩
    have hr4 : BR 306 0 B s4 := hr1.cg (by rw [a3 3 (by omega), p2, w2.1]) (by rw [a4 305 (by omega), p3 305 (by omega), w2.2.2.2 305 (by omega) (by omega)]) (by rw [a4 306 (by omega), p3 306 (by omega), w2.2.2.2 306 (by omega) (by omega)])
    obtain ⟨s5, e8, w5⟩ := x12_cal h0.W hr4 k3 hlr4
    obtain ⟨s6, e9, b1, b2, b3, b4, b5⟩ := x12_ly (σ := s5) (r := 336) (n := n0) (by omega) (by omega)
    -- what the reference kept
    have F6 : ∀ j, j ≠ 9 → j ≠ 10 → j ≠ 11 → j ≠ 12 → j ≠ 17 → j ≠ 18 → cF s6 300 j = cF σ0 300 j := fun j x y z u v t => by
      rw [b3 j v, w5.1, a3 j v, p2, w2.1]; exact z3 j x y z u t
    have F9 : cF s6 300 9 = 0 := by rw [b3 9 (by omega), w5.1, a3 9 (by omega), p2, w2.1]; exact z2
    have A6 : ∀ p, p ≠ 315 → p ≠ 316 → p ≠ 319 → p ≠ 320 → p ≠ 336 → cA s6 p = cA σ0 p := fun p x y z u v => by
      rw [b4 p x, w5.2.2.2 p z u, a4 p x, p3 p v, w2.2.2.2 p z u]; exact z4 p y
    have L6 : cL s6 = cL σ0 := by rw [b1, w5.2.1, a1, p1, w2.2.1]; exact z1
    have hlr6 : LR_ C s6 := by
      have hcell : ∀ i, i < n0 → cA s6 315 i = cA σ0 315 i := fun i hi => by
        rw [b5 i hi, w5.2.2.2 336 (by omega) (by omega), a4 336 (by omega), p4 i hi, w2.2.2.2 315 (by omega) (by omega), z4 315 (by omega)]
      rcases h0.L.2.2.2 with ⟨a, c⟩ | ⟨a, c⟩
      · exact Or.inl ⟨by rw [b2, ← hn0]; exact a, c⟩
      · have en : n0 = C.1 := (nI_eq (by omega) (by have := h0.L.2.1.1; omega)).mp (hn0.symm.trans a)
        exact Or.inr ⟨by rw [b2, en], fun i hi => (hcell i (by omega)).trans (c i hi)⟩
    have hB : Rl_ B (0, T.2) m C χ3 s6 := by
      refine rl_lw (T' := (0, T.2)) (C' := C) h0 ⟨by show 0 ≤ 80; omega, by rw [v3.1, v2.1, rFs]; rfl, F9, fun i hi => absurd hi (Nat.not_lt_zero i)⟩ ⟨?_, h0.L.2.1, ?_, hlr6⟩ (by rw [v3.2.1, v2.2.1]; exact k2.1) (fun p x y z => ?_) (fun p hp => ?_) (fun j hj => F6 j (by omega) (by omega) (by omega) (by omega) (by omega) (by omega)) L6 (fun p hp => A6 p (by omega) (by omega) (by omega) (by omega) (by omega))
      · rw [cW3]; exact h0.L.1
      · rw [cW3]; exact hl4
      · rw [v3.1, v2.1, rFp x]; exact k2.2.2.1 p (by omega)
      · rw [v3.2.2.2 p (by omega), v2.2.2.2 p (by omega), rAF]; exact k2.2.2.2 p (by omega) (by omega) (by omega)
    rw [bi_nd e1, if_pos (show (0 : Int32) ≤ 0 by decide), bi_nd e5]
    dsimp only
    rw [bi_nd (hcut χ1 k2), bi_nd e6]
    dsimp only
    rw [if_pos rfl, hcW, gd_t h0.L.i2, bi_nd e3, g18, bi_nd e7]
    dsimp only
    rw [cW2, gd_t h0.L.i1, bi_nd e4, bi_nd e8]
    dsimp only
    rw [g17, bi_nd e9, bi_nd (x9_s0 _)]
    obtain ⟨x6, y6, f6, f7, h6⟩ := rl_ad (rl_st hB) (by omega) (nI (su (cq_ B C') 40)).toInt64
    rw [bi_nd f6, bi_nd f7]
    obtain ⟨x7, y7, f8, f9, h7⟩ := rl_ad h6 (by omega) (nI (su (cq_ B C) 40)).toInt64
    rw [bi_nd f8, bi_nd f9]
    exact ⟨_, _, _, rfl, rfl, h7.rel⟩
  · rw [bi_nd e1, bi_nd (hcut χ1 k2)]
    dsimp only
    rw [if_neg (m1_m e k0), if_neg (m1_n e k0), lw_m e k0]
    refine ⟨_, _, s', rfl, rfl, Rl_.rel (rl_lw (T' := (0, T.2)) (C' := C) h0 ⟨by show 0 ≤ 80; omega, by rw [rFs]; rfl, z2, fun i hi => absurd hi (Nat.not_lt_zero i)⟩ ?_ k2.1 (fun p x y z => ?_) (fun p hp => ?_) (fun j hj => z3 j (by omega) (by omega) (by omega) (by omega) (by omega)) z1 (fun p hp => z4 p (by omega)))⟩
    · exact h0.L.cg k2.2.1 ((rFp (by omega)).trans (k2.2.2.1 _ (by omega))) (k2.2.2.2 _ (by omega) (by omega) (by omega)) (z3 17 (by omega) (by omega) (by omega) (by omega) (by omega)) (z4 315 (by omega))
    · rw [rFp x]; exact k2.2.2.1 p (by omega)
    · exact k2.2.2.2 p (by omega) (by omega) (by omega)
