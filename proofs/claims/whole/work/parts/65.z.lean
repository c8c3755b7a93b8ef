/-! LAYER 2: the reference reads one line. -/
theorem x12_j8 {τ : St} {c : Nat} {x : Int32} (hc : c + 2 < 24) : f_X12_readsOyster_j87 τ (nI c) (nI (c + 2)) x = if x < 16 then some ((if x < 0 then (0 : Int32) else 1), sF (sA τ 313 (c + 2) x) 300 14 (cF τ 300 14 + 1)) else some (0, sF (sA τ 313 (c + 2) x) 300 10 (cF τ 300 10 - 1)) := by
  unfold f_X12_readsOyster_j87
  rw [show (2 : Int32) = nI 2 from rfl, nI_add, gd_n hc (by omega), gd_n hc (by omega), gd_n hc (by omega), nI_clamp (by omega), rAF, rAs, rFA]
theorem x12_j6 {τ : St} {c : Nat} {x : Int32} (hc : c + 2 < 24) : f_X12_readsOyster_j60 τ (nI c) (nI (c + 1)) x = if 0 ≤ x then (f_X12_twoDigits (sA τ 313 (c + 1) x)).bind (fun q9 => f_X12_readsOyster_j87 q9.2 (nI c) (nI (c + 2)) q9.1) else f_X12_readsOyster_j87 (sA τ 313 (c + 1) x) (nI c) (nI (c + 2)) (-1) := by
  unfold f_X12_readsOyster_j60
  rw [show (2 : Int32) = nI 2 from rfl, nI_1, nI_add, gd_n (by omega) (by omega), gd_n (by omega) (by omega), nI_clamp (by omega), rAs]
theorem cs_0 (f : Nat → Nat) (R l : Nat) : cs_ f R (5 * l) = (decide (l < R) && lt_ (f (5 * l))) := by
  unfold cs_
  rw [if_pos (by omega), show 5 * l / 5 = l by omega]
theorem cs_1 (f : Nat → Nat) (R l : Nat) : cs_ f R (5 * l + 1) = dg (f (5 * l + 1)) := by
  unfold cs_
  rw [if_neg (by omega), if_neg (by omega), if_neg (by omega)]
theorem cs_2 (f : Nat → Nat) (R l : Nat) : cs_ f R (5 * l + 2) = dg (f (5 * l + 2)) := by
  unfold cs_
  rw [if_neg (by omega), if_neg (by omega), if_neg (by omega)]
theorem cs_3 (f : Nat → Nat) (R l : Nat) : cs_ f R (5 * l + 3) = (dg (f (5 * l + 3)) && (!dg (f (5 * l + 2)) || decide (lv_ f (5 * l) < 16))) := by
  unfold cs_
  rw [if_neg (by omega), if_pos (by omega)]
  rfl
theorem cs_4 (f : Nat → Nat) (R l : Nat) : cs_ f R (5 * l + 4) = decide (f (5 * l + 4) = 59) := by
  unfold cs_
  rw [if_neg (by omega), if_neg (by omega), if_pos (by omega)]
def LN_ (f : Nat → Nat) (L R l : Nat) (s s1 : St) (r : Option (Int32 × St)) : Prop := ∃ v : Nat, r = some (nI v, s1) ∧ EO_ s s1 ∧ (∀ i, i < 3 * l → cA s1 313 i = cA s 313 i) ∧ ((v = 1 ∧ 5 * l + 3 < L ∧ (∀ e, e < 4 → cs_ f R (5 * l + e) = true) ∧ cF s1 300 10 = nI (5 * l + 4) ∧ cF s1 300 14 = nI (l + 1) ∧ cA s1 313 (3 * l) = nI (kt_ (f (5 * l))) ∧ cA s1 313 (3 * l + 1) = nI (f (5 * l + 1) - 48) ∧ cA s1 313 (3 * l + 2) = nI (lv_ f (5 * l))) ∨ (v = 0 ∧ ∃ d, d < 4 ∧ 5 * l + d ≤ L ∧ cF s1 300 10 = nI (5 * l + d) ∧ (∀ e, e < d → cs_ f R (5 * l + e) = true) ∧ (5 * l + d = L ∨ (5 * l + d < L ∧ cs_ f R (5 * l + d) = false))))
theorem x12_rd {f : Nat → Nat} {L l n : Nat} {s : St} (h : RA_ f L (5 * l) s) (hn : cF s 300 3 = nI n) (hl : cF s 300 14 = nI l) (hnl : n + l ≤ 8) : ∃ s1, LN_ f L (8 - n) l s s1 (f_X12_readsOyster s) := by
  have h80 := h.1
  have hle := h.2.2.2.1
  have k0 := cs_0 f (8 - n) l
  have k1 := cs_1 f (8 - n) l
  have k2 := cs_2 f (8 - n) l
  have k3 := cs_3 f (8 - n) l
  unfold f_X12_readsOyster
  rw [hn, hl, nI_add]
  by_cases c8 : n + l = 8
  · rw [if_pos (show nI (n + l) = 8 by rw [c8]; rfl)]
    refine ⟨s, 0, rfl, EO_.rf s, fun _ _ => rfl, Or.inr ⟨rfl, 0, by omega, by omega, h.2.2.1, fun e he => absurd he (Nat.not_lt_zero e), ?_⟩⟩
    by_cases q : 5 * l + 0 = L
    · exact Or.inl q
    · exact Or.inr ⟨by omega, by rw [Nat.add_zero, k0, decide_eq_false (by omega)]; rfl⟩
  rw [if_neg (show ¬ nI (n + l) = 8 from fun x => c8 ((nI_eq (b := 8) (by omega) (by omega)).mp x)), show (3 : Int32) = nI 3 from rfl, pk_mul]
  have hb0 : decide (l < 8 - n) = true := decide_eq_true (by omega)
  have e1 := x12_t3 h
  by_cases c0 : 5 * l < L ∧ lt_ (f (5 * l)) = true
  · have hc0 : cs_ f (8 - n) (5 * l) = true := by rw [k0, hb0, c0.2]; rfl
    rw [if_pos c0] at e1
    rw [bi_nd e1, gd_n (by omega) (by omega), gd_n (by omega) (by omega), nI_clamp (by omega)]
    dsimp only
    rw [rAs, if_pos (show (0 : Int32) ≤ nI (kt_ (f (5 * l))) from nI_le (a := 0) (by omega) (by have := kt_t; unfold kt_; split <;> (try split) <;> omega)), nI_1]
    have E1 : EO_ s (sA (sF s 300 10 (nI (5 * l + 1))) 313 (3 * l) (nI (kt_ (f (5 * l))))) := ((EO_.rf s).f (Or.inl rfl)).a
    have A1 : RA_ f L (5 * l + 1) (sA (sF s 300 10 (nI (5 * l + 1))) 313 (3 * l) (nI (kt_ (f (5 * l))))) := h.eo E1 (by omega) (by rw [rFA]; exact rFs)
    have e2 := x12_n1 A1
    by_cases c1 : 5 * l + 1 < L ∧ dg (f (5 * l + 1)) = true
    · have hd1 : 48 ≤ f (5 * l + 1) ∧ f (5 * l + 1) ≤ 57 := of_decide_eq_true c1.2
      have hc1 : cs_ f (8 - n) (5 * l + 1) = true := by rw [k1]; exact c1.2
      rw [if_pos c1] at e2
      rw [bi_nd e2]
      dsimp only
      rw [x12_j6 (by omega), if_pos (show (0 : Int32) ≤ nI (f (5 * l + 1) - 48) from nI_le (a := 0) (by omega) (by omega))]
      have E2 : EO_ s (sA (sF (sA (sF s 300 10 (nI (5 * l + 1))) 313 (3 * l) (nI (kt_ (f (5 * l))))) 300 10 (nI (5 * l + 1 + 1))) 313 (3 * l + 1) (nI (f (5 * l + 1) - 48))) := (E1.f (Or.inl rfl)).a
      have A2 : RA_ f L (5 * l + 1 + 1) (sA (sF (sA (sF s 300 10 (nI (5 * l + 1))) 313 (3 * l) (nI (kt_ (f (5 * l))))) 300 10 (nI (5 * l + 1 + 1))) 313 (3 * l + 1) (nI (f (5 * l + 1) - 48))) := h.eo E2 (by omega) (by rw [rFA]; exact rFs)
      have g0 : cA (sA (sF (sA (sF s 300 10 (nI (5 * l + 1))) 313 (3 * l) (nI (kt_ (f (5 * l))))) 300 10 (nI (5 * l + 1 + 1))) 313 (3 * l + 1) (nI (f (5 * l + 1) - 48))) 313 (3 * l) = nI (kt_ (f (5 * l))) := by rw [rAj (by omega), rAF, rAs]
      have gi : ∀ i, i < 3 * l → cA (sA (sF (sA (sF s 300 10 (nI (5 * l + 1))) 313 (3 * l) (nI (kt_ (f (5 * l))))) 300 10 (nI (5 * l + 1 + 1))) 313 (3 * l + 1) (nI (f (5 * l + 1) - 48))) 313 i = cA s 313 i := fun i hi => by rw [rAj (by omega), rAF, rAj (by omega)]; rfl
      have g1 : cA (sA (sF (sA (sF s 300 10 (nI (5 * l + 1))) 313 (3 * l) (nI (kt_ (f (5 * l))))) 300 10 (nI (5 * l + 1 + 1))) 313 (3 * l + 1) (nI (f (5 * l + 1) - 48))) 313 (3 * l + 1) = nI (f (5 * l + 1) - 48) := rAs
      have gl : cF (sA (sF (sA (sF s 300 10 (nI (5 * l + 1))) 313 (3 * l) (nI (kt_ (f (5 * l))))) 300 10 (nI (5 * l + 1 + 1))) 313 (3 * l + 1) (nI (f (5 * l + 1) - 48))) 300 14 = nI l := by rw [rFA, rFj (by omega), rFA, rFj (by omega)]; exact hl
      generalize sA (sF (sA (sF s 300 10 (nI (5 * l + 1))) 313 (3 * l) (nI (kt_ (f (5 * l))))) 300 10 (nI (5 * l + 1 + 1))) 313 (3 * l + 1) (nI (f (5 * l + 1) - 48)) = t at E2 A2 g0 gi g1 gl ⊢
      have e3 := x12_td A2
      rw [show f (5 * l + 1 + 1) = f (5 * l + 2) from rfl, show f (5 * l + 1 + 1 + 1) = f (5 * l + 3) from rfl] at e3
      have h012 : ∀ e, e < 2 → cs_ f (8 - n) (5 * l + e) = true := fun e he => by
        have : e = 0 ∨ e = 1 := by omega
        rcases this with rfl | rfl
        · exact hc0
        · exact hc1
      by_cases c2 : 5 * l + 2 < L ∧ dg (f (5 * l + 2)) = true
      · have hd2 : 48 ≤ f (5 * l + 2) ∧ f (5 * l + 2) ≤ 57 := of_decide_eq_true c2.2
        have hc2 : cs_ f (8 - n) (5 * l + 2) = true := by rw [k2]; exact c2.2
        have h0123 : ∀ e, e < 3 → cs_ f (8 - n) (5 * l + e) = true := fun e he => by
          by_cases q : e < 2
          · exact h012 e q
          · rw [show e = 2 by omega]; exact hc2
        rw [if_pos c2] at e3
        by_cases c3 : 5 * l + 3 < L ∧ dg (f (5 * l + 3)) = true
        · have hd3 : 48 ≤ f (5 * l + 3) ∧ f (5 * l + 3) ≤ 57 := of_decide_eq_true c3.2
          rw [if_pos c3] at e3
          rw [bi_nd e3]
          dsimp only
          rw [x12_j8 (by omega)]
          rw [c3.2, c2.2, Bool.true_and] at k3
          by_cases cv : lv_ f (5 * l) < 16
          · rw [if_pos (show nI (10 * (f (5 * l + 2) - 48) + (f (5 * l + 3) - 48)) < (16 : Int32) from nI_lt (b := 16) cv (by omega)), if_neg (nI_pos (by omega))]
            refine ⟨_, 1, rfl, ((((E2.f (Or.inl rfl)).f (Or.inl rfl)).a).f (Or.inr rfl)), fun i hi => ?_, Or.inl ⟨rfl, c3.1, fun e he => ?_, ?_, ?_, ?_, ?_, ?_⟩⟩
            · rw [rAF, rAj (by omega), rAF, rAF]; exact gi i hi
            · by_cases q : e < 3
              · exact h0123 e q
              · rw [show e = 3 by omega, k3, decide_eq_true cv]; rfl
            · rw [rFj (by omega), rFA, rFs]
            · rw [rFs, rFj (by omega), rFj (by omega), gl, nI_1]
            · rw [rAF, rAj (by omega), rAF, rAF]; exact g0
            · rw [rAF, rAj (by omega), rAF, rAF]; exact g1
            · rw [rAF, rAs]; rfl
          · rw [if_neg (show ¬ nI (10 * (f (5 * l + 2) - 48) + (f (5 * l + 3) - 48)) < (16 : Int32) from fun x => cv ((nI_ltI (a := 10 * (f (5 * l + 2) - 48) + (f (5 * l + 3) - 48)) (b := 16) (by omega) (by omega)).mp x))]
            refine ⟨_, 0, rfl, ((((E2.f (Or.inl rfl)).f (Or.inl rfl)).a).f (Or.inl rfl)), fun i hi => ?_, Or.inr ⟨rfl, 3, by omega, by omega, ?_, h0123, Or.inr ⟨c3.1, by rw [k3, decide_eq_false cv]; rfl⟩⟩⟩
            · rw [rAF, rAj (by omega), rAF, rAF]; exact gi i hi
            · rw [rFs, rFs, show (1 : Int32) = nI 1 from rfl, pk_sub (by omega)]; rfl
        · rw [if_neg c3] at e3
          rw [bi_nd e3]
          dsimp only
          rw [x12_j8 (by omega), if_pos (by decide), if_pos (by decide)]
          refine ⟨_, 0, rfl, (((E2.f (Or.inl rfl)).a).f (Or.inr rfl)), fun i hi => ?_, Or.inr ⟨rfl, 3, by omega, by omega, ?_, h0123, ?_⟩⟩
          · rw [rAF, rAj (by omega), rAF]; exact gi i hi
          · rw [rFj (by omega), rFA, rFs]
          · by_cases q : 5 * l + 3 = L
            · exact Or.inl q
            · refine Or.inr ⟨by omega, ?_⟩
              rw [k3, Bool.eq_false_iff.mpr (fun x => c3 ⟨by omega, x⟩)]; rfl
      · rw [if_neg c2] at e3
        rw [bi_nd e3]
        dsimp only
        rw [x12_j8 (by omega), if_pos (by decide), if_pos (by decide)]
        refine ⟨_, 0, rfl, ((E2.a).f (Or.inr rfl)), fun i hi => ?_, Or.inr ⟨rfl, 2, by omega, by omega, ?_, h012, ?_⟩⟩
        · rw [rAF, rAj (by omega)]; exact gi i hi
        · rw [rFj (by omega), rFA]; exact A2.2.2.1
        · by_cases q : 5 * l + 2 = L
          · exact Or.inl q
          · refine Or.inr ⟨by omega, ?_⟩
            rw [k2, Bool.eq_false_iff.mpr (fun x => c2 ⟨by omega, x⟩)]
    · rw [if_neg c1] at e2
      rw [bi_nd e2]
      dsimp only
      rw [x12_j6 (by omega), if_neg (by decide), x12_j8 (by omega), if_pos (by decide), if_pos (by decide)]
      refine ⟨_, 0, rfl, ((E1.a).a).f (Or.inr rfl), fun i hi => ?_, Or.inr ⟨rfl, 1, by omega, by omega, ?_, fun e he => ?_, ?_⟩⟩
      · rw [rAF, rAj (by omega), rAj (by omega), rAj (by omega)]; rfl
      · rw [rFj (by omega), rFA, rFA]; exact A1.2.2.1
      · rw [show e = 0 by omega]; exact hc0
      · by_cases q : 5 * l + 1 = L
        · exact Or.inl q
        · refine Or.inr ⟨by omega, ?_⟩
          rw [k1, Bool.eq_false_iff.mpr (fun x => c1 ⟨by omega, x⟩)]
  · rw [if_neg c0] at e1
    rw [bi_nd e1, gd_n (by omega) (by omega), gd_n (by omega) (by omega), nI_clamp (by omega)]
    dsimp only
    rw [rAs, if_neg (by decide), nI_1, x12_j6 (by omega), if_neg (by decide), x12_j8 (by omega), if_pos (by decide), if_pos (by decide)]
    refine ⟨_, 0, rfl, (((EO_.rf s).a).a.a).f (Or.inr rfl), fun i hi => ?_, Or.inr ⟨rfl, 0, by omega, by omega, ?_, fun e he => absurd he (Nat.not_lt_zero e), ?_⟩⟩
    · rw [rAF, rAj (by omega), rAj (by omega), rAj (by omega)]
    · rw [rFj (by omega), rFA, rFA, rFA]; exact h.2.2.1
    · by_cases q : 5 * l + 0 = L
      · exact Or.inl q
      · refine Or.inr ⟨by omega, ?_⟩
        rw [Nat.add_zero, k0, Bool.eq_false_iff.mpr (fun x => c0 ⟨by omega, x⟩), Bool.and_false]
