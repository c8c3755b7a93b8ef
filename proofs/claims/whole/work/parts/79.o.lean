/-! LAYER 2: rule. -/
theorem x12_fc {s : St} {n p : Nat} {v : Nat} (hn : n ≤ 80) (h10 : cF s 300 10 = nI p) (h11 : cF s 300 11 = nI (min n 40)) (hv : v ≤ 1) (hp : p ≤ min n 40) : f_X12_faultOf s (nI n) (40 : Int32) (nI v) = some (if v = 1 ∧ p = min n 40 then (if n ≤ 40 then 0 else -1 - nI 40) else -1 - nI p) := by
  unfold f_X12_faultOf
  rw [h10, h11]
  have hs : (if nI v = 0 then (0 : Int32) else (if nI p = nI (min n 40) then (1 : Int32) else (0 : Int32))) = if v = 1 ∧ p = min n 40 then 1 else 0 := by
    by_cases c : v = 0
    · rw [if_pos (by rw [c]; rfl), if_neg (by omega)]
    · rw [if_neg (show ¬ nI v = 0 from nI_ne0 (by omega) (by omega))]
      by_cases d : p = min n 40
      · rw [if_pos (by rw [d]), if_pos ⟨by omega, d⟩]
      · rw [if_neg (fun x => d ((nI_eq (by omega) (by omega)).mp x)), if_neg (fun x => d x.2)]
  rw [hs]
  unfold f_X12_faultOf_j20 f_X12_faultOf_j40 f_X12_faultOf_j44
  rw [h10]
  by_cases g : v = 1 ∧ p = min n 40
  · rw [if_pos g, if_pos g]
    by_cases c : n ≤ 40
    · rw [if_pos (show nI n ≤ (40 : Int32) from nI_le (b := 40) c (by omega)), if_neg (by decide), if_pos c]
    · rw [if_neg (show ¬ nI n ≤ (40 : Int32) from nI_ge (a := 40) (by omega) (by omega)), if_neg (by decide), if_neg c]; rfl
  · rw [if_neg g, if_neg g, if_pos (show (0 : Int32) = 0 from rfl)]
    by_cases c : n ≤ 40
    · rw [if_pos (show nI n ≤ (40 : Int32) from nI_le (b := 40) c (by omega))]
    · rw [if_neg (show ¬ nI n ≤ (40 : Int32) from nI_ge (a := 40) (by omega) (by omega))]
      by_cases d : p < 40
      · rw [if_pos (show nI p < (40 : Int32) from nI_lt (b := 40) d (by omega))]
        rfl
      · have e : p = 40 := by omega
        rw [e]; first | rfl | (rw [if_neg (by decide)]; rfl) | (rw [if_pos rfl, if_neg (by decide)]; rfl)
theorem gc_w (c : Nat → Nat) : ∀ (l : List Nat) (k0 d e : Nat), (∀ i, i < l.length → c (k0 + i) = l.getD i 0) → dp c k0 = d → gc_ d l e → dp c (k0 + l.length) = e ∧ ∀ k, k0 ≤ k → k < k0 + l.length → okc (c k) (dp c k)
  | [], k0, d, e, _, hd, hg => by
    have hg : e = d := hg
    exact ⟨by rw [hg]; exact hd, fun k h1 h2 => absurd h2 (by show ¬ k < k0 + 0; omega)⟩
  | x :: l, k0, d, e, hc, hd, hg => by
    have h0 : c k0 = x := hc 0 (Nat.succ_pos _)
    have hd1 : dp c (k0 + 1) = nd_ x d := by
      show (if c k0 = 3000 then dp c k0 else if c k0 < 2000 then dp c k0 + 1 else dp c k0 - 1) = _
      rw [h0, hd]
      rfl
    obtain ⟨i1, i2⟩ := gc_w c l (k0 + 1) (nd_ x d) e (fun i hi => by rw [show k0 + 1 + i = k0 + (i + 1) by omega]; exact hc (i + 1) (Nat.succ_lt_succ hi)) hd1 hg.2
    rw [List.length_cons]
    refine ⟨by rw [show k0 + (l.length + 1) = k0 + 1 + l.length by omega]; exact i1, fun k h1 h2 => ?_⟩
    by_cases q : k = k0
    · rw [q, h0, hd]; exact hg.1
    · exact i2 k (by omega) (by omega)
theorem wc_l {l : List Nat} (h : l.length ≤ 40) (hg : gc_ 0 l 1) : WC (l.length, fun i => l.getD i 0) := by
  obtain ⟨h1, h2⟩ := gc_w (fun i => l.getD i 0) l 0 0 1 (fun i _ => by rw [Nat.zero_add]) rfl hg
  rw [Nat.zero_add] at h1 h2
  exact ⟨h, h1, fun k hk => h2 k (Nat.zero_le _) hk⟩
theorem wc_0 : WC d0_ := by
  have h := wc_l (l := [1001, 9, 2005, 1000, 2004, 1003, 2003]) (by decide) (by
    refine ⟨Or.inr (Or.inl ⟨by decide, by decide⟩), Or.inl (by decide), Or.inr (Or.inr (Or.inl ⟨by decide, by decide, by decide⟩)), Or.inr (Or.inl ⟨by decide, by decide⟩), Or.inr (Or.inr (Or.inl ⟨by decide, by decide, by decide⟩)), Or.inr (Or.inl ⟨by decide, by decide⟩), Or.inr (Or.inr (Or.inl ⟨by decide, by decide, by decide⟩)), rfl⟩)
  exact h
/-- both read the text as a rule -/
def GO_ (w : Nat) (χ s' : St) (q : Int32) : Prop := ∃ χ1 C' n, q = 0 ∧ f_X5_read χ w = some (-1, χ1) ∧ LC_ w C' χ1 ∧ LF_ w χ χ1 ∧ WC C' ∧ n ≤ 40 ∧ cF s' 300 18 = nI n ∧ ((n = 0 ∧ C' = d0_) ∨ (n = C'.1 ∧ ∀ i, i < n → cA s' 316 i = nI (C'.2 i)))
def BA_ (w : Nat) (χ : St) (q : Int32) : Prop := ∃ χ1 e, e < 100 ∧ q = -1 - nI e ∧ f_X5_read χ w = some (nI e, χ1) ∧ LF_ w χ χ1
theorem rl_rd {w : Nat} {T : Nat × (Nat → Nat)} {χ σ : St} (hw : w = 16 ∨ w = 21) (hT : RT T χ σ) : ∃ q s', f_X12_readsRule σ = some (q, s') ∧ cL s' = cL σ ∧ cF s' 300 9 = 0 ∧ (∀ j, j ≠ 9 → j ≠ 10 → j ≠ 11 → j ≠ 12 → j ≠ 18 → cF s' 300 j = cF σ 300 j) ∧ (∀ p, p ≠ 316 → cA s' p = cA σ p) ∧ (GO_ w χ s' q ∨ BA_ w χ q) := by
  obtain ⟨t1, t2, t3, t4⟩ := id hT
  have hLc : (T.1 ≤ 40 ∧ min T.1 40 = T.1) ∨ (40 < T.1 ∧ min T.1 40 = 40) := by omega
  unfold f_X12_readsRule f_X12_readsRule_j24 f_X12_readsRule_j29 f_X12_begins
  have hL11 : (if (40 : Int32) < nI T.1 then (40 : Int32) else nI T.1) = nI (min T.1 40) := by
    rcases hLc with ⟨q, e⟩ | ⟨q, e⟩
    · rw [e, if_neg (show ¬ (40 : Int32) < nI T.1 from fun x => absurd ((nI_ltI (a := 40) (by omega) (by omega)).mp x) (by omega))]
    · rw [e, if_pos (show (40 : Int32) < nI T.1 from nI_lt (a := 40) q (by omega))]; rfl
  rw [ob_s, t3, hL11]
  dsimp only
  generalize hs0 : sF (sF (sF (sF (sF σ 300 9 (0 : Int32)) 300 10 (0 : Int32)) 300 12 (0 : Int32)) 300 11 (nI (min T.1 40))) 300 18 (0 : Int32) = s0
  have g10 : cF s0 300 10 = nI 0 := by rw [← hs0, rFj (by omega), rFj (by omega), rFj (by omega), rFs]; rfl
  have g11 : cF s0 300 11 = nI (min T.1 40) := by rw [← hs0, rFj (by omega), rFs]
  have g12 : cF s0 300 12 = nI 0 := by rw [← hs0, rFj (by omega), rFj (by omega), rFs]; rfl
  have g18 : cF s0 300 18 = nI 0 := by rw [← hs0, rFs]; rfl
  have hs9 : cF s0 300 9 = 0 := by rw [← hs0, rFj (by omega), rFj (by omega), rFj (by omega), rFj (by omega), rFs]
  have hsF : ∀ j, j ≠ 9 → j ≠ 10 → j ≠ 11 → j ≠ 12 → j ≠ 18 → cF s0 300 j = cF σ 300 j := fun j a b c d e => by rw [← hs0, rFj e, rFj c, rFj d, rFj b, rFj a]
  have hsA : cA s0 = cA σ := by rw [← hs0]; rfl
  have hsL : cL s0 = cL σ := by rw [← hs0]; rfl
  by_cases hT0 : T.1 = 0
  · obtain ⟨χ1, e1, k1, k2⟩ := x5_rd0 hw hT hT0
    have hf := x12_fc (v := 1) (p := 0) t1 g10 g11 (by omega) (by omega)
    rw [if_pos ⟨rfl, by omega⟩, if_pos (by omega)] at hf
    rw [if_pos (show nI T.1 = 0 by rw [hT0]; rfl), bi_nd (show f_X12_faultOf s0 (nI T.1) (40 : Int32) (1 : Int32) = some 0 from hf)]
    exact ⟨0, s0, rfl, hsL, hs9, hsF, fun p _ => by rw [hsA], Or.inl ⟨χ1, d0_, 0, rfl, e1, k1, k2, wc_0, by omega, g18, Or.inl ⟨rfl, rfl⟩⟩⟩
  rw [if_neg (show ¬ nI T.1 = 0 from nI_ne0 (by omega) (by omega))]
  have hA0 : RA_ T.2 (min T.1 40) 0 s0 := ⟨by omega, g11, g10, Nat.zero_le _, fun i hi => ⟨(t4 i (by omega)).1, by rw [hsA]; exact (t4 i (by omega)).2.2⟩⟩
  obtain ⟨v, s', e1, hE, hv⟩ := (rr_m (f := T.2) (L := min T.1 40) (by omega) 400).2 0 0 [] [] [] (fun _ => false) s0 0 (by omega) ⟨hA0, g12, g18, fun i hi => absurd hi (Nat.not_lt_zero i)⟩ (Nat.le_refl 0) rfl ⟨rfl, rfl⟩ (fun _ => rfl) (by omega)
  have h11 : cF s' 300 11 = nI (min T.1 40) := (hE.2.1 11 (by omega) (by omega) (by omega)).trans g11
  have fr1 : cL s' = cL σ := hE.1.trans hsL
  have fr2 : cF s' 300 9 = 0 := (hE.2.1 9 (by omega) (by omega) (by omega)).trans hs9
  have fr3 : ∀ j, j ≠ 9 → j ≠ 10 → j ≠ 11 → j ≠ 12 → j ≠ 18 → cF s' 300 j = cF σ 300 j := fun j a b c d e => (hE.2.1 j b d e).trans (hsF j a b c d e)
  have fr4 : ∀ p, p ≠ 316 → cA s' p = cA σ p := fun p hp => (hE.2.2 p hp).trans (by rw [hsA])
  rw [bi_nd (show f_X12_readsRank 400 s0 (0 : Int32) = _ from e1)]
  dsimp only
  rcases hv with ⟨rfl, p', K', o, t, q0, ⟨b1, b2, b3, b4, b5, b6, b7, b8, b9, b10, b11, b12⟩, hST⟩ | ⟨rfl, p', K', c', f1, f2, f3, f4, f5, f6, f7, f8⟩
  · rw [if_neg (show ¬ nI 1 = 0 by decide)]
    have hf := x12_fc (v := 1) t1 b3.1.2.2.1 h11 (by omega) b1
    rw [bi_nd (show f_X12_faultOf s' (nI T.1) (40 : Int32) (1 : Int32) = _ from hf)]
    by_cases cp : p' = min T.1 40
    · obtain ⟨χ1, e2, k1, k2⟩ := x5_rd hw hT (by omega) b2 b1 (Or.inl cp)
      rw [if_neg (show ¬ p' < min T.1 40 by omega)] at e2
      rw [if_pos ⟨rfl, cp⟩]
      by_cases c40 : T.1 ≤ 40
      · rw [if_pos c40, if_pos ⟨b8, b9⟩] at e2
        rw [if_pos c40]
        have ht : rp_ 0 K'.2.1 = t := by
          rw [b6]
          exact (rl_ap (q := 0) (s0 := []) t (fun x hx => lk_w (b7 x hx)) rfl rfl).1
        rw [ht, b5] at k1
        have hl : (o ++ t).length ≤ 40 := by omega
        exact ⟨0, s', rfl, fr1, fr2, fr3, fr4, Or.inl ⟨χ1, _, (o ++ t).length, rfl, e2, k1, k2, wc_l hl (b12 0), hl, b3.2.2.1, Or.inr ⟨rfl, b3.2.2.2⟩⟩⟩
      · rw [if_neg c40] at e2
        rw [if_neg c40]
        exact ⟨_, s', rfl, fr1, fr2, fr3, fr4, Or.inr ⟨χ1, 40, by omega, rfl, e2, k2⟩⟩
    · have hn : tk_ K' (T.2 p') = none := tk_st b8 b9 (b11 (by omega)) ((hST (by omega)).imp id (fun x => ⟨x.2.1, x.2.2⟩)) (Or.inr rfl)
      obtain ⟨χ1, e2, k1, k2⟩ := x5_rd hw hT (by omega) b2 b1 (Or.inr ⟨by omega, hn⟩)
      rw [if_pos (show p' < min T.1 40 by omega)] at e2
      rw [if_neg (fun x => cp x.2)]
      exact ⟨_, s', rfl, fr1, fr2, fr3, fr4, Or.inr ⟨χ1, p', by omega, rfl, e2, k2⟩⟩
  · rw [if_pos (show nI 0 = 0 from rfl)]
    have hf := x12_fc (v := 0) t1 f4.2.2.1 h11 (by omega) f2
    rw [bi_nd (show f_X12_faultOf s' (nI T.1) (40 : Int32) (0 : Int32) = _ from hf), if_neg (fun x => absurd x.1 (by decide))]
    by_cases cp : p' = min T.1 40
    · obtain ⟨χ1, e2, k1, k2⟩ := x5_rd hw hT (by omega) f3 f2 (Or.inl cp)
      rw [if_neg (show ¬ p' < min T.1 40 by omega)] at e2
      by_cases c40 : T.1 ≤ 40
      · rw [if_pos c40, if_neg (fun x => (f8 cp).elim (fun a => by rw [a] at x; exact absurd x.1 (by decide)) (fun a => a x.2)), show T.1 = p' by omega] at e2
        exact ⟨_, s', rfl, fr1, fr2, fr3, fr4, Or.inr ⟨χ1, p', by omega, rfl, e2, k2⟩⟩
      · rw [if_neg c40, show 40 = p' by omega] at e2
        exact ⟨_, s', rfl, fr1, fr2, fr3, fr4, Or.inr ⟨χ1, p', by omega, rfl, e2, k2⟩⟩
    · obtain ⟨χ1, e2, k1, k2⟩ := x5_rd hw hT (by omega) f3 f2 (Or.inr ⟨by omega, f7 (by omega)⟩)
      rw [if_pos (show p' < min T.1 40 by omega)] at e2
      exact ⟨_, s', rfl, fr1, fr2, fr3, fr4, Or.inr ⟨χ1, p', by omega, rfl, e2, k2⟩⟩
/-- a code laid as the rule's -/
theorem x12_ly {r n : Nat} {σ : St} (hr : r ≠ 315) (hn : n ≤ 80) : ∃ s', f_X12_laysCode σ r (nI n) = some s' ∧ cL s' = cL σ ∧ cF s' 300 17 = nI n ∧ (∀ j, j ≠ 17 → cF s' 300 j = cF σ 300 j) ∧ (∀ p, p ≠ 315 → cA s' p = cA σ p) ∧ ∀ i, i < n → cA s' 315 i = cA σ r i := by
  unfold f_X12_laysCode
  obtain ⟨x, e1, h1, h2, h3, h4⟩ := it_inv (step := fun z : Int32 × St => f_X12_laysCode_s7 r z.2 (nI n) z.1) (s := ((0 : Int32), sF σ 300 17 (nI n))) (fun (k : Nat) (z : Int32 × St) => z.1 = nI k ∧ cL z.2 = cL σ ∧ cF z.2 = cF (sF σ 300 17 (nI n)) ∧ (∀ p, p ≠ 315 → cA z.2 p = cA σ p) ∧ ∀ i, i < k → cA z.2 315 i = cA σ r i) (fun x => cL x = cL σ ∧ cF x = cF (sF σ 300 17 (nI n)) ∧ (∀ p, p ≠ 315 → cA x p = cA σ p) ∧ ∀ i, i < n → cA x 315 i = cA σ r i) n (by omega) ⟨rfl, rfl, rfl, fun _ _ => rfl, fun i hi => absurd hi (Nat.not_lt_zero i)⟩
    (fun k z hk hI => by
      obtain ⟨z1, s⟩ := z
      obtain ⟨rfl, i1, i2, i3, i4⟩ := hI
      dsimp only at i1 i2 i3 i4
      show ∃ s', f_X12_laysCode_s7 r s (nI n) (nI k) = some (.inl s') ∧ _
      unfold f_X12_laysCode_s7
      rw [if_neg (nI_ge hk (by omega)), gd_n (by omega) (by omega), gd_n (by omega) (by omega), nI_clamp (by omega), nI_1]
      refine ⟨_, rfl, rfl, i1, i2, fun p hp => (rAp hp).trans (i3 p hp), fun i hi => ?_⟩
      by_cases q : i = k
      · subst q; rw [rAs, i3 r hr]
      · rw [rAj q]; exact i4 i (by omega))
    (fun z hI => by
      obtain ⟨z1, s⟩ := z
      obtain ⟨rfl, i1, i2, i3, i4⟩ := hI
      dsimp only at i1 i2 i3 i4
      show ∃ x, f_X12_laysCode_s7 r s (nI n) (nI n) = some (.inr x) ∧ _
      unfold f_X12_laysCode_s7
      rw [if_pos (nI_le (Nat.le_refl _) (by omega))]
      exact ⟨_, rfl, i1, i2, i3, i4⟩)
  exact ⟨x, bi_nd e1, h1, by rw [h2]; exact rFs, fun j hj => by rw [h2]; exact rFj hj, h3, h4⟩
theorem rl_lw {B : Bd_} {T T' : Nat × (Nat → Nat)} {m : Nat} {C C' : Lw} {χ χ' σ σ' : St} (h : Rl_ B T m C χ σ) (hT : RT T' χ' σ') (hL : RL_ C' χ' σ') (w2 : cL χ' = cL χ) (f3 : ∀ p, p ≠ 1 → p ≠ 16 → p ≠ 21 → cF χ' p = cF χ p) (f4 : ∀ p, (p < 16 ∨ 25 < p) → cA χ' p = cA χ p) (g1 : ∀ j, j = 1 ∨ j = 3 ∨ j = 4 ∨ j = 21 ∨ j = 27 ∨ j = 31 → cF σ' 300 j = cF σ 300 j) (g2 : cL σ' = cL σ) (g3 : ∀ p, p = 305 ∨ p = 306 ∨ p = 322 ∨ p = 328 ∨ p = 329 ∨ p = 332 ∨ p = 333 ∨ p = 338 ∨ p = 339 ∨ p = 340 → cA σ' p = cA σ p) : Rl_ B T' m C' χ' σ' := by
  refine ⟨h.W, h.b.cg (f3 32 (by omega) (by omega) (by omega)) (fun j _ _ => f4 _ (by omega)), h.r.cg (g1 3 (by omega)) (g3 305 (by omega)) (g3 306 (by omega)), hT, h.O.cg (f3 3 (by omega) (by omega) (by omega)) (by rw [w2]) (g1 1 (by omega)) (by rw [g2]), ?_, ?_, ?_, ?_, hL⟩
  · exact h.U.cg (f3 5 (by omega) (by omega) (by omega)) (fun p _ _ => f3 p (by omega) (by omega) (by omega)) (fun p _ _ => f4 p (by omega)) (g1 21 (by omega)) (g1 3 (by omega)) (g3 305 (by omega)) (g3 322 (by omega))
  · exact h.K.cg (f4 8 (by omega)) (fun p _ _ => f3 p (by omega) (by omega) (by omega)) (fun p _ _ => f4 p (by omega)) (g1 4 (by omega)) (g1 3 (by omega)) (g3 305 (by omega)) (g3 338 (by omega)) (g3 339 (by omega)) (g3 340 (by omega))
  · exact h.S.cg (f3 9 (by omega) (by omega) (by omega)) (f4 10 (by omega)) (f4 11 (by omega)) (f4 12 (by omega)) (g1 27 (by omega)) (g3 328 (by omega)) (g3 329 (by omega))
  · exact h.H.cg (f3 13 (by omega) (by omega) (by omega)) (f4 14 (by omega)) (f4 15 (by omega)) (g1 31 (by omega)) (g3 332 (by omega)) (g3 333 (by omega))
theorem y_3 (χ σ : St) (h : Rel_ χ σ) : ∃ (v : Int32) (χ1 : St) (σ1 : St), f_X11_rule χ = some (v, χ1) ∧ f_X12_rule σ = some (v, σ1) ∧ Rel_ χ1 σ1 := by
  obtain ⟨B, T, m, C, h⟩ := h
  have h0 := h.th
  unfold f_X11_rule f_X12_rule
  generalize sF σ 300 0 (0 : Int32) = σ0 at h0 ⊢
  have hw := h0.L.w
  obtain ⟨t1, t2, t3, t4⟩ := id h0.tx
  obtain ⟨q, s', e2, z1, z2, z3, z4, hz⟩ := rl_rd (w := (cW χ).2) (by omega) h0.tx
  rw [gd_t h0.L.i2, bi_nd e2]
  dsimp only
  have hcut : ∀ χa : St, LF_ (cW χ).2 χ χa → f_X8_cutTo χa (0 : Int32) = some (1, sF χa 1 1 0) := fun χa ha => by
    unfold f_X8_cutTo
    rw [if_neg (by decide), ha.2.2.1 1 (by omega), t2, if_pos (show (0 : Int32) ≤ nI T.1 from nI_le (a := 0) (by omega) (by omega))]
  rcases hz with ⟨χ1, C', n, rfl, e1, k1, k2, k3, k4, k5, k6⟩ | ⟨χ1, e, k0, rfl, e1, k2⟩
  · obtain ⟨σ2, e3, a1, a2, a3, a4, a5⟩ := x12_ly (σ := s') (r := 316) (n := n) (by omega) (by omega)
    have hcW : cW (sF χ1 1 1 0) = cW χ := k2.2.1
    rw [bi_nd e1, if_pos rfl, k5, bi_nd e3, bi_nd (hcut χ1 k2)]
    dsimp only
    rw [if_pos rfl, hcW, gd_t h0.L.i1, gd_t h0.L.i2]
    refine ⟨0, _, σ2, rfl, rfl, Rl_.rel (rl_lw (T' := (0, T.2)) (C' := C') h0 ⟨by show 0 ≤ 80; omega, by show cF (sF χ1 1 1 0) 1 1 = _; rw [rFs]; rfl, (a3 9 (by omega)).trans z2, fun i hi => absurd hi (Nat.not_lt_zero i)⟩ ⟨?_, k3, ?_, ?_⟩ k2.1 (fun p x y z => ?_) (fun p hp => ?_) (fun j hj => (a3 j (by omega)).trans (z3 j (by omega) (by omega) (by omega) (by omega) (by omega))) (a1.trans z1) (fun p hp => (a4 p (by omega)).trans (z4 p (by omega))))⟩
    · show ((cW χ).2, (cW χ).1) = (16, 21) ∨ ((cW χ).2, (cW χ).1) = (21, 16)
      rcases hw with ⟨x, y⟩ | ⟨x, y⟩ <;> rw [x, y]
      · exact Or.inr rfl
      · exact Or.inl rfl
    · show LC_ (cW χ).2 C' (sF χ1 1 1 0)
      exact k1.cg (rFp (by omega)) rfl
    · rcases k6 with ⟨rfl, rfl⟩ | ⟨rfl, k6⟩
      · exact Or.inl ⟨a2, rfl⟩
      · exact Or.inr ⟨a2, fun i hi => (a5 i hi).trans (k6 i hi)⟩
    · show cF (sF χ1 1 1 0) p = cF χ p
      rw [rFp x]; exact k2.2.2.1 p (by omega)
    · show cA χ1 p = cA χ p
      exact k2.2.2.2 p (by omega) (by omega) (by omega)
  · rw [bi_nd e1, bi_nd (hcut χ1 k2)]
    dsimp only
    rw [if_neg (m1_m e k0), if_neg (show ¬ (-1 : Int32) - nI e = 0 from fun x => m1_n e k0 (by rw [x]; decide))]
    refine ⟨_, _, s', rfl, rfl, Rl_.rel (rl_lw (T' := (0, T.2)) (C' := C) h0 ⟨by show 0 ≤ 80; omega, by rw [rFs]; rfl, z2, fun i hi => absurd hi (Nat.not_lt_zero i)⟩ ?_ k2.1 (fun p x y z => ?_) (fun p hp => ?_) (fun j hj => z3 j (by omega) (by omega) (by omega) (by omega) (by omega)) z1 (fun p hp => z4 p (by omega)))⟩
    · exact h0.L.cg k2.2.1 ((rFp (by omega)).trans (k2.2.2.1 _ (by omega))) (k2.2.2.2 _ (by omega) (by omega) (by omega)) (z3 17 (by omega) (by omega) (by omega) (by omega) (by omega)) (z4 315 (by omega))
    · rw [rFp x]; exact k2.2.2.1 p (by omega)
    · exact k2.2.2.2 p (by omega) (by omega) (by omega)
