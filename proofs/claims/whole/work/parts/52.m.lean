/-! LAYER 2: what is done and undone: puts, tides, stills, holds, knife, undo, keep, again. -/
theorem bt_6 (i : Nat) : bt 6 i = 48 + 8 * i := if_pos rfl
theorem bt_7 (i : Nat) : bt 7 i = 168 + 8 * i := if_neg (by decide)
/-- pushed on both sides, but not yet counted by the reference -/
def RUp (n : Nat) (Bo : Bd_) (χ σ : St) : Prop := ∃ pl u, pl < 15 ∧ u ≤ 15 ∧ cF χ 5 1 = nI ((pl + 1) % 15) ∧ cF χ 5 2 = nI (min 15 (u + 1)) ∧ cF σ 300 21 = nI u ∧ BC_ (48 + 8 * pl) Bo χ ∧ BR 322 (34 * u) Bo σ ∧ ∀ j, j < u → j < 14 → ∃ B : Bd_, B.1 = n ∧ WB B ∧ BC_ (48 + 8 * ((pl + 14 - j) % 15)) B χ ∧ BR 322 (34 * (u - 1 - j)) B σ
theorem RUp.cg {n : Nat} {Bo : Bd_} {χ χ' σ σ' : St} (h : RUp n Bo χ σ) (h1 : cF χ' 5 = cF χ 5) (hF : ∀ p, 48 ≤ p → p < 168 → cF χ' p = cF χ p) (hA : ∀ p, 48 ≤ p → p < 168 → cA χ' p = cA χ p) (h2 : cF σ' 300 21 = cF σ 300 21) (h3 : cF σ' 300 3 = cF σ 300 3) (h4 : cA σ' 305 = cA σ 305) (h5 : cA σ' 322 = cA σ 322) : RUp n Bo χ' σ' := by
  obtain ⟨pl, u, a, b, c, d, e, f1, f2, f⟩ := h
  refine ⟨pl, u, a, b, by rw [h1]; exact c, by rw [h1]; exact d, by rw [h2]; exact e, f1.cg (hF _ (by omega) (by omega)) (fun i _ _ => hA _ (by omega) (by omega)), f2.cg h3 h4 h5, fun j hj hj2 => ?_⟩
  obtain ⟨B, g1, g2, g3, g4⟩ := f j hj hj2
  have hm : (pl + 14 - j) % 15 < 15 := Nat.mod_lt _ (by omega)
  exact ⟨B, g1, g2, g3.cg (hF _ (by omega) (by omega)) (fun i hi hi2 => hA _ (by omega) (by omega)), g4.cg h3 h4 h5⟩
/-- the class's push, of a bed at b1 -/
theorem x6_pu {b1 pl u : Nat} {Bo : Bd_} {χ : St} (hb1 : b1 = 32 ∨ b1 = 40) (hpl : pl < 15) (hu : u ≤ 15) (h1 : cF χ 5 1 = nI pl) (h2 : cF χ 5 2 = nI u) (W : WB Bo) (h : BC_ b1 Bo χ) : ∃ s, f_X6_push χ b1 = some s ∧ cW s = cW χ ∧ cL s = cL χ ∧ cF s 5 1 = nI ((pl + 1) % 15) ∧ cF s 5 2 = nI (min 15 (u + 1)) ∧ (∀ p, p ≠ 5 → p ≠ 48 + 8 * pl → cF s p = cF χ p) ∧ (∀ p, p < 49 + 8 * pl ∨ 53 + 8 * pl < p → cA s p = cA χ p) ∧ BC_ (48 + 8 * pl) Bo s := by
  obtain ⟨s, e, hf, hb⟩ := x0_cb (b := 48 + 8 * pl) (b1 := b1) (w := 48 + 8 * pl + 1) (by omega) W h
  have g1 : cF s 5 1 = nI pl := by rw [hf.2.2.1 5 (by omega)]; exact h1
  have g2 : cF s 5 2 = nI u := by rw [hf.2.2.1 5 (by omega)]; exact h2
  have hd : nI (pl + 1) / nI 15 = nI ((pl + 1) / 15) := pk_div (by omega) (by omega) (by omega)
  refine ⟨sF (sF s 5 1 (nI ((pl + 1) % 15))) 5 2 (nI (min 15 (u + 1))), ?_, hf.2.1, hf.1, ?_, rFs, fun p hp hq => ?_, fun p hp => ?_, ?_⟩
  · unfold f_X6_push
    rw [h1, gd_n hpl (by omega), nI_clamp (by omega), bt_6, bi_nd e]
    simp (disch := omega) only [g1, li_1, li_15, nI_add, pk_div, pk_rn, rFj, g2]
    rw [nI_mi (by omega) (by omega), Nat.min_comm]
  · rw [rFj (by omega), rFs]
  · rw [rFp hp, rFp hp]; exact hf.2.2.1 p hq
  · exact hf.2.2.2 p (by omega) (by omega)
  · exact hb.cg ((rFp (by omega)).trans (rFp (by omega))) (fun j _ _ => rfl)
/-- the reference's row put by: what was still stands -/
theorem ru_pb {n : Nat} {χ σ : St} (h : RU n χ σ) (h8 : n ≤ 8) {s : St} (h1 : cF s = cF σ) (h4 : cA s 305 = cA σ 305) {u : Nat} (hu : cF σ 300 21 = nI u) (hu15 : u ≤ 15) (h5 : ∀ i, i < 34 * u → cA s 322 i = cA σ 322 i) : RU n χ s := by
  obtain ⟨pl, u', a, b, c, d, e, f⟩ := h
  have hq := (nI_eq (by omega) (by omega)).mp (hu.symm.trans e)
  subst hq
  refine ⟨pl, u, a, b, c, d, by rw [h1]; exact e, fun j hj => ?_⟩
  obtain ⟨B, g1, g2, g3, g4⟩ := f j hj
  exact ⟨B, g1, g2, g3, g4.ci g2.1 (by rw [h1]) h4 (fun i hi => h5 _ (by omega))⟩
/-- both have pushed -/
theorem ru_pp {n pl u : Nat} {Bo : Bd_} {χ χ' σ σ' : St} (h : RU n χ σ) (h1 : cF χ 5 1 = nI pl) (h2 : cF χ 5 2 = nI u) (hpl : pl < 15) (hu : u ≤ 15) (c1 : cF χ' 5 1 = nI ((pl + 1) % 15)) (c2 : cF χ' 5 2 = nI (min 15 (u + 1))) (c3 : ∀ p, p ≠ 5 → p ≠ 48 + 8 * pl → 48 ≤ p → p < 168 → cF χ' p = cF χ p) (c4 : ∀ p, 48 ≤ p → p < 168 → p < 49 + 8 * pl ∨ 53 + 8 * pl < p → cA χ' p = cA χ p) (c5 : BC_ (48 + 8 * pl) Bo χ') (g1 : cF σ' 300 21 = nI u) (g3 : cF σ' 300 3 = cF σ 300 3) (g4 : cA σ' 305 = cA σ 305) (g5 : ∀ i, i < 34 * u → cA σ' 322 i = cA σ 322 i) (g6 : BR 322 (34 * u) Bo σ') : RUp n Bo χ' σ' := by
  obtain ⟨pl', u', a, b, c, d, e, f⟩ := h
  have hq := (nI_eq (by omega) (by omega)).mp (h1.symm.trans c)
  subst hq
  have hq := (nI_eq (by omega) (by omega)).mp (h2.symm.trans d)
  subst hq
  refine ⟨pl, u, a, b, c1, c2, g1, c5, g6, fun j hj hj2 => ?_⟩
  obtain ⟨B, k1, k2, k3, k4⟩ := f j hj
  have hm : (pl + 14 - j) % 15 < 15 := Nat.mod_lt _ (by omega)
  have hne : (pl + 14 - j) % 15 ≠ pl := by omega
  exact ⟨B, k1, k2, k3.cg (c3 _ (by omega) (by omega) (by omega) (by omega)) (fun i _ _ => c4 _ (by omega) (by omega) (by omega)), k4.ci k2.1 g3 g4 (fun i hi => g5 _ (by omega))⟩
/-- the reference counts it -/
theorem x12_ad {n : Nat} {Bo : Bd_} {χ σ : St} (h : RUp n Bo χ σ) (hn : Bo.1 = n) (W : WB Bo) (a : Int32) : ∃ s, f_X12_adds σ a = some (a, s) ∧ cL s = cL σ ∧ (∀ j, j ≠ 21 → cF s 300 j = cF σ 300 j) ∧ (∀ p, p ≠ 322 → cA s p = cA σ p) ∧ RU n χ s := by
  obtain ⟨pl, u, hpl, hu, c, d, e, f1, f2, f⟩ := h
  unfold f_X12_adds
  rw [rFs, e]
  by_cases hu15 : u < 15
  · rw [show (1 : Int32) = nI 1 from rfl, nI_add, if_pos (show nI (u + 1) ≤ (15 : Int32) from nI_le (b := 15) (by omega) (by omega))]
    refine ⟨_, rfl, rfl, fun j hj => rFj hj, fun p _ => rfl, (pl + 1) % 15, u + 1, Nat.mod_lt _ (by omega), by omega, c, by rw [d, Nat.min_eq_right (by omega)], rFs, fun j hj => ?_⟩
    by_cases hj0 : j = 0
    · subst hj0
      refine ⟨Bo, hn, W, ?_, ?_⟩
      · rw [show ((pl + 1) % 15 + 14 - 0) % 15 = pl by omega]; exact f1
      · rw [show u + 1 - 1 - 0 = u by omega]; exact f2.cg (rFj (by omega)) rfl rfl
    · obtain ⟨B, k1, k2, k3, k4⟩ := f (j - 1) (by omega) (by omega)
      refine ⟨B, k1, k2, ?_, ?_⟩
      · rw [show ((pl + 1) % 15 + 14 - j) % 15 = (pl + 14 - (j - 1)) % 15 by omega]; exact k3
      · rw [show u + 1 - 1 - j = u - 1 - (j - 1) by omega]; exact k4.cg (rFj (by omega)) rfl rfl
  · have hu2 : u = 15 := by omega
    subst hu2
    rw [if_neg (by decide)]
    obtain ⟨s, e2, h1, h2, h3, h4, h5, -⟩ := it_row (step := fun z : Int32 × St => f_X12_adds_s21 z.2 a z.1) (σ := sF σ 300 21 (nI 15 + 1)) (p := 322) (o := 0) (N := 510) (f := fun k => cA σ 322 (k + 34)) (by omega)
      (fun k s hk h1 h2 h3 h4 h5 => by
        have h6 := h5 (k + 34) (by omega)
        rw [rAF] at h6
        show f_X12_adds_s21 s a (nI k) = _
        unfold f_X12_adds_s21
        simp (disch := omega) only [li_1, li_34, li_510, c_leF, gd_n, nI_clamp, nI_add, h6, Nat.zero_add])
      (fun s h1 => by
        show f_X12_adds_s21 s a (nI 510) = _
        unfold f_X12_adds_s21
        simp (disch := omega) only [li_510, c_leT])
    rw [bi_nd e2]
    have g21 : cF s 300 21 = nI 15 + 1 := by rw [h1]; exact rFs
    have hA : ∀ i, i < 510 → cA s 322 i = cA σ 322 (i + 34) := fun i hi => by have := h5 i hi; rwa [Nat.zero_add] at this
    refine ⟨_, rfl, h2, fun j hj => (rFj hj).trans (by rw [h1]; exact rFj hj), fun p hp => h4 p hp, (pl + 1) % 15, 15, Nat.mod_lt _ (by omega), by omega, c, d, by rw [rFs, g21]; rfl, fun j hj => ?_⟩
    have hk3 : cF (sF s 300 21 (cF s 300 21 - 1)) 300 3 = cF σ 300 3 := (rFj (by omega)).trans (by rw [h1]; exact rFj (by omega))
    have hk5 : cA (sF s 300 21 (cF s 300 21 - 1)) 305 = cA σ 305 := h4 305 (by omega)
    by_cases hj0 : j = 0
    · subst hj0
      refine ⟨Bo, hn, W, ?_, ?_⟩
      · rw [show ((pl + 1) % 15 + 14 - 0) % 15 = pl by omega]; exact f1
      · exact f2.mv W hk3 hk5 (fun i hi => (hA _ (by omega)).trans (congrArg _ (by omega)))
    · obtain ⟨B, k1, k2, k3, k4⟩ := f (j - 1) (by omega) (by omega)
      refine ⟨B, k1, k2, ?_, ?_⟩
      · rw [show ((pl + 1) % 15 + 14 - j) % 15 = (pl + 14 - (j - 1)) % 15 by omega]; exact k3
      · exact k4.mv k2 hk3 hk5 (fun i hi => (hA _ (by omega)).trans (congrArg _ (by omega)))
/-- all put together again, with another bed and other undos -/
theorem rl_mk {B B' : Bd_} {T : Nat × (Nat → Nat)} {m m' : Nat} {C : Lw} {χ χ' σ σ' : St} (h : Rl_ B T m C χ σ) (hn : B'.1 = B.1) (hW : WB B') (hb : BC_ 32 B' χ') (hr : BR 306 0 B' σ') (ho : RO m' χ' σ') (hu : RU B.1 χ' σ') (w1 : cW χ' = cW χ) (f3 : ∀ p, p = 1 ∨ p = 9 ∨ p = 13 ∨ p = (cW χ).1 ∨ (168 ≤ p ∧ p < 300) → cF χ' p = cF χ p) (f4 : ∀ p, p = 2 ∨ p = 8 ∨ (10 ≤ p ∧ p ≤ 15) ∨ p = (cW χ).1 + 1 ∨ (168 ≤ p ∧ p < 300) → cA χ' p = cA χ p)
    (g1 : ∀ j, j = 3 ∨ j = 4 ∨ j = 9 ∨ j = 17 ∨ j = 27 ∨ j = 31 → cF σ' 300 j = cF σ 300 j) (g3 : ∀ p, p = 305 ∨ p = 308 ∨ p = 315 ∨ p = 328 ∨ p = 329 ∨ p = 332 ∨ p = 333 ∨ p = 338 ∨ p = 339 ∨ p = 340 → cA σ' p = cA σ p) : Rl_ B' T m' C χ' σ' := by
  refine ⟨hW, hb, hr, h.tx.cg (f3 1 (by omega)) (f4 2 (by omega)) (g1 9 (by omega)) (g3 308 (by omega)), ho, by rw [hn]; exact hu, ?_, ?_, ?_, ?_⟩
  · rw [hn]
    exact h.K.cg (f4 8 (by omega)) (fun p _ _ => f3 p (by omega)) (fun p _ _ => f4 p (by omega)) (g1 4 (by omega)) (g1 3 (by omega)) (g3 305 (by omega)) (g3 338 (by omega)) (g3 339 (by omega)) (g3 340 (by omega))
  · exact h.S.cg (f3 9 (by omega)) (f4 10 (by omega)) (f4 11 (by omega)) (f4 12 (by omega)) (g1 27 (by omega)) (g3 328 (by omega)) (g3 329 (by omega))
  · exact h.H.cg (f3 13 (by omega)) (f4 14 (by omega)) (f4 15 (by omega)) (g1 31 (by omega)) (g3 332 (by omega)) (g3 333 (by omega))
  · exact h.L.cg w1 (f3 _ (by omega)) (f4 _ (by omega)) (g1 17 (by omega)) (g3 315 (by omega))
/-- the reference's state with its row put by stands for the old one -/
theorem rl_pb {B : Bd_} {T : Nat × (Nat → Nat)} {m : Nat} {C : Lw} {χ σ : St} (h : Rl_ B T m C χ σ) : ∃ pl u s, pl < 15 ∧ u ≤ 15 ∧ cF χ 5 1 = nI pl ∧ cF χ 5 2 = nI u ∧ cF s 300 21 = nI u ∧ f_X12_putsBy σ = some s ∧ Rl_ B T m C χ s ∧ BR 322 (34 * u) B s := by
  obtain ⟨pl, u, a, b, c, d, e, f⟩ := h.U
  obtain ⟨s, e1, h1, h2, h3, h4, h5, h6⟩ := x12_pb e b
  refine ⟨pl, u, s, a, b, c, d, by rw [h1]; exact e, e1, ?_, ?_⟩
  · refine rl_mk h rfl h.W h.b (h.r.cg (by rw [h1]) (h4 305 (by omega)) (h4 306 (by omega))) (h.O.cg rfl rfl (by rw [h1]) (by rw [h2])) (ru_pb h.U h.W.1 h1 (h4 305 (by omega)) e b h6) rfl (fun _ _ => rfl) (fun _ _ => rfl) (fun j _ => by rw [h1]) (fun p hp => h4 p (by omega))
  · refine h.r.mv h.W (by rw [h1]) (h4 305 (by omega)) (fun i hi => ?_)
    rw [Nat.zero_add]
    exact h5 i hi
/-- after it is counted -/
theorem rl_ct {B Bo : Bd_} {T : Nat × (Nat → Nat)} {m : Nat} {C : Lw} {χ σ : St} (h : ∀ s : St, cL s = cL σ → (∀ j, j ≠ 21 → cF s 300 j = cF σ 300 j) → (∀ p, p ≠ 322 → cA s p = cA σ p) → RU B.1 χ s → Rl_ B T m C χ s) (hp : RUp B.1 Bo χ σ) (hn : Bo.1 = B.1) (W : WB Bo) (a : Int32) : ∃ s, f_X12_adds σ a = some (a, s) ∧ Rl_ B T m C χ s := by
  obtain ⟨s, e, h1, h2, h3, h4⟩ := x12_ad hp hn W a
  exact ⟨s, e, h s h1 h2 h3 h4⟩
theorem y_6 (χ σ : St) (a1 a2 : Int32) (h : Rel_ χ σ) : ∃ (v : Int32) (χ1 : St) (σ1 : St), f_X11_puts χ a1 a2 = some (v, χ1) ∧ f_X12_puts σ a1 a2 = some (v, σ1) ∧ Rel_ χ1 σ1 := by
  obtain ⟨B, T, m, C, h⟩ := h
  have h0 := h.th
  have h8 := h.W.1
  unfold f_X11_puts f_X12_puts
  generalize sF σ 300 0 (0 : Int32) = σ0 at h0 ⊢
  rcases qu_ca a1 a2 with ⟨q1, q2⟩ | ⟨t, w, ht, hw, rfl, rfl, q1, q2⟩
  · simp only [q1, q2, ob_s, c0_0]
    exact ⟨_, _, _, rfl, rfl, h0.rel⟩
  simp only [q1, q2, ob_s, c1_0]
  obtain ⟨pl, u, s1, hpl, hu, p1, p2, p3, e1, h1, hro⟩ := rl_pb h0
  obtain ⟨x1, e2, k1, k2, k3, k4, k5, k6, k7⟩ := x6_pu (b1 := 32) (Or.inl rfl) hpl hu p1 p2 h1.W h1.b
  have hv := h1.L.w
  have hb1 : BC_ 32 B x1 := h1.b.cg (k5 32 (by omega) (by omega)) (fun j _ _ => k6 _ (by omega))
  have hL1 : LC_ (cW x1).1 C x1 := by rw [k1]; exact h1.L.2.2.1.cg (k5 _ (by omega) (by omega)) (k6 _ (by omega))
  obtain ⟨x2, e3, hb2, hf2⟩ := x0_as (w := (cW x1).1) (b := 32) (wd := w) (by rw [k1]; omega) (by omega) (by rw [k1]; omega) h1.W hb1 h1.L.2.1 hL1 ht
  obtain ⟨s2, e4, hr2, hg2⟩ := x12_as (r := 306) (wd := w) ⟨by omega, by omega, by omega⟩ h1.W h1.r h1.L.2.1 h1.L.2.2.2 ht
  have hW2 := asB_w (p := clP B C t w) h1.W
  have e5 := x9_add (χ := sF x2 3 1 0) (m := 0) (a := (nI (bi (clP B C t w) B.1)).toInt64) rFs (by omega)
  have e6 := x12_ent (σ := sF s2 300 1 0) (m := 0) (a := (nI (bi (clP B C t w) B.1)).toInt64) rFs (by omega)
  generalize hx3 : sF (sL (sF x2 3 1 0) 4 0 (nI (bi (clP B C t w) B.1)).toInt64) 3 1 (nI (0 + 1)) = x3 at e5
  generalize hs3 : sF (sL (sF s2 300 1 0) 302 0 (nI (bi (clP B C t w) B.1)).toInt64) 300 1 (nI (0 + 1)) = s3 at e6
  have hA3 : cA x3 = cA x2 := by rw [← hx3]; rfl
  have hF3 : ∀ p, p ≠ 3 → cF x3 p = cF x2 p := fun p hp => by rw [← hx3, rFp hp, rFL, rFp hp]
  have hW3 : cW x3 = cW x2 := by rw [← hx3]; rfl
  have hG3 : ∀ j, j ≠ 1 → cF s3 300 j = cF s2 300 j := fun j hj => by rw [← hs3, rFj hj, rFL, rFj hj]
  have hB3 : cA s3 = cA s2 := by rw [← hs3]; rfl
  have hb3 := hb2.cg (χ' := x3) (hF3 32 (by omega)) (fun j _ _ => by rw [hA3])
  have hr3 := hr2.cg (σ' := s3) (hG3 3 (by omega)) (by rw [hB3]) (by rw [hB3])
  have o1 := x0_op hW2 hb3
  have o2 := x12_op hW2 hr3
  have t3 : cF x3 3 1 = nI 1 := by rw [← hx3]; exact rFs
  have t4 : cF s3 300 1 = nI 1 := by rw [← hs3]; exact rFs
  have e7 := x9_add (χ := x3) (m := 1) (a := (nI (bi (oP_ (asB B (clP B C t w)) 0) (asB B (clP B C t w)).1)).toInt64) t3 (by omega)
  have e8 := x12_ent (σ := s3) (m := 1) (a := (nI (bi (oP_ (asB B (clP B C t w)) 0) (asB B (clP B C t w)).1)).toInt64) t4 (by omega)
  have hRO : RO 2 (sF (sL x3 4 1 (nI (bi (oP_ (asB B (clP B C t w)) 0) (asB B (clP B C t w)).1)).toInt64) 3 1 (nI (1 + 1))) (sF (sL s3 302 1 (nI (bi (oP_ (asB B (clP B C t w)) 0) (asB B (clP B C t w)).1)).toInt64) 300 1 (nI (1 + 1))) := by
    refine ⟨by omega, rFs, rFs, fun i hi => ?_⟩
    rw [rLF, rLF]
    by_cases hi1 : i = 1
    · subst hi1; rw [rLs, rLs]
    · rw [rLj hi1, rLj hi1, show i = 0 by omega, ← hx3, ← hs3, rLF, rLF, rLs, rLs]
  generalize hx4 : sF (sL x3 4 1 (nI (bi (oP_ (asB B (clP B C t w)) 0) (asB B (clP B C t w)).1)).toInt64) 3 1 (nI (1 + 1)) = x4 at e7 hRO
  generalize hs4 : sF (sL s3 302 1 (nI (bi (oP_ (asB B (clP B C t w)) 0) (asB B (clP B C t w)).1)).toInt64) 300 1 (nI (1 + 1)) = s4 at e8 hRO
  have hA4 : cA x4 = cA x2 := by rw [← hx4, ← hA3]; rfl
  have hF4 : ∀ p, p ≠ 3 → cF x4 p = cF x2 p := fun p hp => by rw [← hx4, rFp hp, rFL]; exact hF3 p hp
  have hW4 : cW x4 = cW x2 := by rw [← hx4, ← hW3]; rfl
  have hG4 : ∀ j, j ≠ 1 → cF s4 300 j = cF s2 300 j := fun j hj => by rw [← hs4, rFj hj, rFL]; exact hG3 j hj
  have hB4 : cA s4 = cA s2 := by rw [← hs4, ← hB3]; rfl
  have gF : ∀ p, p ≠ 3 → p ≠ 32 → p ≠ 5 → p ≠ 48 + 8 * pl → cF x4 p = cF χ p := fun p a b c d => (hF4 p a).trans ((hf2.2.2.1 p b).trans (k5 p c d))
  have gA : ∀ p, p ≠ (cW x1).1 + 4 → (p < 33 ∨ 37 < p) → (p < 49 + 8 * pl ∨ 53 + 8 * pl < p) → cA x4 p = cA χ p := fun p a b c => by rw [hA4]; exact (hf2.2.2.2 p a (by omega)).trans (k6 p c)
  have gG : ∀ j, j ≠ 1 → cF s4 300 j = cF s1 300 j := fun j hj => (hG4 j hj).trans (by rw [hg2.1])
  have gB : ∀ p, p ≠ 306 → p ≠ 319 → p ≠ 320 → cA s4 p = cA s1 p := fun p a b c => by rw [hB4]; exact hg2.2.2 p a b c
  rw [k1] at gA
  have hup : RUp B.1 B x4 s4 := by
    refine ru_pp h1.U p1 p2 hpl hu ?_ ?_ (fun p a b c d => gF p (by omega) (by omega) a b) (fun p a b c => gA p (by omega) (by omega) c) ?_ ((gG 21 (by omega)).trans p3) (gG 3 (by omega)) (gB 305 (by omega) (by omega) (by omega)) (fun i _ => by rw [gB 322 (by omega) (by omega) (by omega)]) ?_
    · rw [hF4 5 (by omega), hf2.2.2.1 5 (by omega)]; exact k3
    · rw [hF4 5 (by omega), hf2.2.2.1 5 (by omega)]; exact k4
    · exact k7.cg ((hF4 _ (by omega)).trans (hf2.2.2.1 _ (by omega))) (fun j _ _ => by rw [hA4]; exact hf2.2.2.2 _ (by rw [k1]; omega) (by omega))
    · exact hro.cg (gG 3 (by omega)) (gB 305 (by omega) (by omega) (by omega)) (gB 322 (by omega) (by omega) (by omega))
  obtain ⟨s5, e9, h5⟩ := rl_ct (B := asB B (clP B C t w)) (T := T) (m := 2) (C := C) (Bo := B) (fun s q1 q2 q3 q4 => rl_mk h1 (B' := asB B (clP B C t w)) rfl hW2 (hb2.cg (hF4 32 (by omega)) (fun j _ _ => by rw [hA4])) (hr2.cg ((q2 3 (by omega)).trans (hG4 3 (by omega))) ((q3 305 (by omega)).trans (by rw [hB4])) ((q3 306 (by omega)).trans (by rw [hB4]))) (hRO.cg rfl rfl (q2 1 (by omega)) (by rw [q1])) q4 (by rw [hW4, hf2.2.1, k1]) (fun p hp => gF p (by omega) (by omega) (by omega) (by omega)) (fun p hp => gA p (by omega) (by omega) (by omega)) (fun j hj => (q2 j (by omega)).trans (gG j (by omega))) (fun p hp => (q3 p (by omega)).trans (gB p (by omega) (by omega) (by omega)))) hup rfl h1.W (nI (cn (clP B C t w) B.1))
  simp only [e1, e2, ob_s, gd_t (show isLaw (cW x1).1 = true by rw [k1]; exact h1.L.i1), e3, e4, x9_s0, e5, e6, o1, o2, e7, e8, h1.b16, e9]
  exact ⟨_, _, _, rfl, rfl, h5.rel⟩
