/-! LAYER 2: calls that read: would, words, honest, shyest, loudest, calm, yes, count. -/
theorem y_13 (χ σ : St) (a1 a2 : Int32) (h : Rel_ χ σ) : ∃ (v : Int32) (χ1 : St) (σ1 : St), f_X11_would χ a1 a2 = some (v, χ1) ∧ f_X12_would σ a1 a2 = some (v, σ1) ∧ Rel_ χ1 σ1 := by
  obtain ⟨B, T, m, C, h⟩ := h
  have h0 := h.th
  unfold f_X11_would f_X12_would
  rcases qu_ca a1 a2 with ⟨q1, q2⟩ | ⟨t, w, ht, hw, rfl, rfl, q1, q2⟩
  · simp only [q1, q2, ob_s, c0_0]
    exact ⟨_, _, _, rfl, rfl, h0.rel⟩
  · obtain ⟨χ1, σ1, e1, e2, h1⟩ := rl_cl (w := w) h0 ht
    have h2 := rl_st h1
    obtain ⟨χ3, σ3, e3, e4, h3⟩ := rl_ad h2 (by omega) (nI (bi (clP B C t w) B.1)).toInt64
    have ey := h3.ye ht
    obtain ⟨χ4, σ4, e5, e6, h4⟩ := rl_ad h3 (by omega) (nI (cn (fun i => clP B C t w i && yP_ B t i) B.1)).toInt64
    simp only [q1, q2, ob_s, c1_0, gd_t h0.L.i1, e1, e2, x9_s0, e3, e4, ey.1, ey.2, nI_an, bi_and, h.b16, e5, e6]
    exact ⟨_, _, _, rfl, rfl, h4.rel⟩
theorem y_14 (χ σ : St) (a1 a2 : Int32) (h : Rel_ χ σ) : ∃ (v : Int32) (χ1 : St) (σ1 : St), f_X11_words χ a1 a2 = some (v, χ1) ∧ f_X12_words σ a1 a2 = some (v, σ1) ∧ Rel_ χ1 σ1 := by
  obtain ⟨B, T, m, C, h⟩ := h
  have h0 := h.th
  unfold f_X11_words f_X12_words
  rcases qu_ca a1 0 with ⟨q1, q2⟩ | ⟨t, w, ht, hw, rfl, -, q1, q2⟩
  · simp only [q1, q2, ob_s, c0_0]
    exact ⟨_, _, _, rfl, rfl, h0.rel⟩
  · rcases in_ca a2 0 8 (by omega) (by omega) with ⟨q3, q4⟩ | ⟨n, -, hn, rfl, q3⟩
    · simp only [q1, q2, lj_0, lj_8, q3, ob_s, c0_0, c1_0]
      refine ⟨-1, χ, _, ?_, rfl, h0.rel⟩
      by_cases hz : a2 < 0
      · rw [if_pos hz]
      · rw [if_neg hz, if_neg (show ¬ a2 ≤ (8 : Int32) from lt_le (q4.resolve_left hz))]
    · simp only [q1, q2, lj_0, lj_8, q3, ob_s, c0_0, c1_0]
      rw [if_neg (nI_pos (by omega)), if_pos (show nI n ≤ (8 : Int32) from nI_le (b := 8) hn (by omega))]
      obtain ⟨x, y, e1, e2, l, b, c, χ', σ', rfl, rfl, hc, h1⟩ := it_twn (st1 := fun z : Int32 × Int32 × Int32 × Int32 × St => f_X11_words_s32 z.2.2.2.2 (nI t) (nI n) z.1 z.2.1 z.2.2.1 z.2.2.2.1) (st2 := fun z : Int32 × Int32 × Int32 × Int32 × St => f_X12_words_s39 z.2.2.2.2 (nI t) (nI n) z.1 z.2.1 z.2.2.1 z.2.2.2.1) (s := ((-2 : Int32), (0 : Int32), (0 : Int32), (0 : Int32), χ)) (t := ((-2 : Int32), (0 : Int32), (0 : Int32), (0 : Int32), (sF σ 300 0 (0 : Int32))))
        (fun k s u => ∃ l b c χ' σ', s = (l, b, nI c, nI k, χ') ∧ u = (l, b, nI c, nI k, σ') ∧ c ≤ k ∧ Rl_ B T m C χ' σ')
        (fun x y => ∃ l b c χ' σ', x = (l, b, nI c, χ') ∧ y = (l, b, nI c, σ') ∧ c ≤ 10 ∧ Rl_ B T m C χ' σ') 10 (by omega) ⟨_, _, 0, _, _, rfl, rfl, Nat.le_refl _, h0⟩
        (fun k s u hk hI => by
          obtain ⟨l, b, c, χ', σ', rfl, rfl, hc, h1⟩ := hI
          obtain ⟨χ2, σ2, e1, e2, h2⟩ := rl_cl (w := k) h1 ht
          have hb := h1.cn (clP B C t k)
          have hn8 := h1.W.1
          show ∃ s' t', f_X11_words_s32 χ' (nI t) (nI n) l b (nI c) (nI k) = some (.inl s') ∧ f_X12_words_s39 σ' (nI t) (nI n) l b (nI c) (nI k) = some (.inl t') ∧ _
          unfold f_X11_words_s32 f_X12_words_s39 f_X12_words_j73_39 f_X12_words_j91_39 f_X12_words_j109_39 f_X11_words_j80_32
          simp (disch := omega) only [li_0, li_1, li_10, c_leF, gd_t h1.L.i1, e1, e2, ob_s, h1.b16, nI_add]
          by_cases hp : cn (clP B C t k) B.1 = n
          · simp (disch := omega) only [c_eqT, if_true, c_eqF, fl_1, ob_s, nI_add]
            by_cases hc0 : c = 0
            · subst hc0
              simp (disch := omega) only [c_eqT, if_true, Nat.zero_add]
              exact ⟨_, _, rfl, rfl, _, _, 1, χ2, σ2, rfl, rfl, by omega, h2⟩
            · simp (disch := omega) only [c_eqF]
              exact ⟨_, _, rfl, rfl, _, _, _, χ2, σ2, rfl, rfl, by omega, h2⟩
          · simp (disch := omega) only [c_eqT, if_true, c_eqF, fl_0, ob_s, nI_add, Nat.add_zero]
            exact ⟨_, _, rfl, rfl, _, _, _, χ2, σ2, rfl, rfl, by omega, h2⟩)
        (fun s u hI => by
          obtain ⟨l, b, c, χ', σ', rfl, rfl, hc, h1⟩ := hI
          exact ⟨_, _, rfl, rfl, l, b, c, χ', σ', rfl, rfl, hc, h1⟩)
      rw [bi_nd e1, bi_nd e2]
      try dsimp only
      by_cases hc0 : c = 0
      · subst hc0
        rw [if_pos (by decide), if_pos (by decide)]
        exact ⟨_, _, _, rfl, rfl, h1.rel⟩
      · rw [if_neg (show ¬ nI c ≤ 0 from nI_nle (by omega) (by omega)), if_neg (show ¬ nI c ≤ 0 from nI_nle (by omega) (by omega))]
        have h2 := rl_st h1
        obtain ⟨χ3, σ3, e3, e4, h3⟩ := rl_ad h2 (by omega) (nI c).toInt64
        obtain ⟨χ4, σ4, e5, e6, h4⟩ := rl_ad h3 (by omega) b.toInt64
        simp only [x9_s0, ob_s, e3, e4, e5, e6]
        exact ⟨_, _, _, rfl, rfl, h4.rel⟩
theorem y_15 (χ σ : St) (h : Rel_ χ σ) : ∃ (v : Int32) (χ1 : St) (σ1 : St), f_X11_honest χ = some (v, χ1) ∧ f_X12_honest σ = some (v, σ1) ∧ Rel_ χ1 σ1 := by
  obtain ⟨B, T, m, C, h⟩ := h
  have h0 := h.th
  unfold f_X11_honest f_X12_honest
  rw [bi_nd h.op.1]
  try dsimp only
  obtain ⟨x, y, e1, e2, l, c, χ', σ', rfl, rfl, hc, h1⟩ := it_twn (st1 := fun z : Int32 × Int32 × Int32 × St => f_X11_honest_s16 z.2.2.2 (nI (bi (oP_ B 0) B.1)) z.1 z.2.1 z.2.2.1) (st2 := fun z : Int32 × Int32 × Int32 × St => f_X12_honest_s12 z.2.2.2 z.1 z.2.1 z.2.2.1) (s := ((-2 : Int32), (0 : Int32), (0 : Int32), χ)) (t := ((-2 : Int32), (0 : Int32), (0 : Int32), (sF σ 300 0 (0 : Int32))))
    (fun k s u => ∃ l c χ' σ', s = (l, nI c, nI k, χ') ∧ u = (l, nI c, nI k, σ') ∧ c ≤ k ∧ Rl_ B T m C χ' σ')
    (fun x y => ∃ l c χ' σ', x = (l, nI c, χ') ∧ y = (l, nI c, σ') ∧ c ≤ 40 ∧ Rl_ B T m C χ' σ') 40 (by omega) ⟨_, 0, _, _, rfl, rfl, Nat.le_refl _, h0⟩
    (fun k s u hk hI => by
      obtain ⟨l, c, χ', σ', rfl, rfl, hc, h1⟩ := hI
      obtain ⟨χ2, σ2, e1, e2, h2⟩ := rl_cq h1 hk
      have ey := h2.ye (t := k / 10) (by omega)
      have hb1 := bi_31 (clP B C (k / 10) (k % 10)) (n := B.1) (by have := h.W.1; omega)
      have hb2 := bi_31 (fun i => oP_ B 0 i && yP_ B (k / 10) i) (n := B.1) (by have := h.W.1; omega)
      have hcm : bi (fun i => yP_ B (k / 10) i && oP_ B 0 i) B.1 = bi (fun i => oP_ B 0 i && yP_ B (k / 10) i) B.1 := bi_ex (fun i _ => Bool.and_comm _ _)
      show ∃ s' t', f_X11_honest_s16 χ' (nI (bi (oP_ B 0) B.1)) l (nI c) (nI k) = some (.inl s') ∧ f_X12_honest_s12 σ' l (nI c) (nI k) = some (.inl t') ∧ _
      unfold f_X11_honest_s16 f_X12_honest_s12 f_X12_honest_j65_12 f_X12_honest_j81_12 f_X11_honest_j57_16
      simp (disch := omega) only [li_0, li_1, li_10, li_40, c_leF, pk_div, pk_rn, e1, e2, ob_s, ey.1, ey.2, h2.op.2, nI_an, bi_and, nI_add, hcm]
      generalize bi (clP B C (k / 10) (k % 10)) B.1 = u1 at hb1 ⊢
      generalize bi (fun i => oP_ B 0 i && yP_ B (k / 10) i) B.1 = u2 at hb2 ⊢
      by_cases hp : u1 = u2
      · simp (disch := omega) only [c_eqT, if_true, c_eqF, fl_1, ob_s, nI_add]
        by_cases hc0 : c = 0
        · subst hc0
          simp (disch := omega) only [c_eqT, if_true, Nat.zero_add]
          exact ⟨_, _, rfl, rfl, _, 1, χ2, σ2, rfl, rfl, by omega, h2⟩
        · simp (disch := omega) only [c_eqF]
          exact ⟨_, _, rfl, rfl, _, _, χ2, σ2, rfl, rfl, by omega, h2⟩
      · simp (disch := omega) only [c_eqT, if_true, c_eqF, fl_0, ob_s, nI_add, Nat.add_zero]
        exact ⟨_, _, rfl, rfl, _, _, χ2, σ2, rfl, rfl, by omega, h2⟩)
    (fun s u hI => by
      obtain ⟨l, c, χ', σ', rfl, rfl, hc, h1⟩ := hI
      exact ⟨_, _, rfl, rfl, l, c, χ', σ', rfl, rfl, hc, h1⟩)
  rw [bi_nd e1, bi_nd e2]
  try dsimp only
  by_cases hc0 : c = 0
  · subst hc0
    rw [if_pos (by decide), if_pos (by decide)]
    exact ⟨_, _, _, rfl, rfl, h1.rel⟩
  · rw [if_neg (show ¬ nI c ≤ 0 from nI_nle (by omega) (by omega)), if_neg (show ¬ nI c ≤ 0 from nI_nle (by omega) (by omega))]
    have h2 := rl_st h1
    obtain ⟨χ3, σ3, e3, e4, h3⟩ := rl_ad h2 (by omega) (nI c).toInt64
    simp only [x9_s0, ob_s, e3, e4]
    exact ⟨_, _, _, rfl, rfl, h3.rel⟩
theorem y_16 (χ σ : St) (a1 a2 : Int32) (h : Rel_ χ σ) : ∃ (v : Int32) (χ1 : St) (σ1 : St), f_X11_shyest χ a1 a2 = some (v, χ1) ∧ f_X12_shyest σ a1 a2 = some (v, σ1) ∧ Rel_ χ1 σ1 := by
  obtain ⟨B, T, m, C, h⟩ := h
  have h0 := h.th
  unfold f_X11_shyest f_X12_shyest
  rcases qu_ca a1 a2 with ⟨q1, q2⟩ | ⟨t, w, ht, hw, rfl, rfl, q1, q2⟩
  · simp only [q1, q2, ob_s, c0_0]
    exact ⟨_, _, _, rfl, rfl, h0.rel⟩
  · obtain ⟨χ1, σ1, e1, e2, h1⟩ := rl_cl (w := w) h0 ht
    have h2 := rl_st h1
    simp only [q1, q2, ob_s, c1_0, gd_t h0.L.i1, e1, e2, x9_s0]
    obtain ⟨x, y, e3, e4, l, χ', σ', rfl, rfl, h3⟩ := it_twn (st1 := fun z : Int32 × Int32 × Int32 × St => f_X11_shyest_s40 z.2.2.2 (nI (bi (clP B C t w) B.1)) z.1 z.2.1 z.2.2.1) (st2 := fun z : Int32 × Int32 × St => f_X12_shyest_s37 z.2.2 (nI (bi (clP B C t w) B.1)) z.1 z.2.1) (s := ((0 : Int32), (-1 : Int32), (0 : Int32), sF χ1 3 1 0)) (t := ((0 : Int32), (0 : Int32), sF σ1 300 1 0))
      (fun k s u => ∃ l c χ' σ', s = (nI l, c, nI k, χ') ∧ u = (nI l, nI k, σ') ∧ l < 3 ∧ (k = 0 → l = 0 ∧ c = -1) ∧ (0 < k → c = nI (cn (fun i => clP B C t w i && kP_ B l i) B.1)) ∧ Rl_ B T k C χ' σ')
      (fun x y => ∃ l χ' σ', x = (l, χ') ∧ y = (l, σ') ∧ Rl_ B T 3 C χ' σ') 3 (by omega) ⟨0, _, _, _, rfl, rfl, by omega, fun _ => ⟨rfl, rfl⟩, fun h => absurd h (Nat.lt_irrefl _), h2⟩
      (fun k s u hk hI => by
        obtain ⟨l, c, χ', σ', rfl, rfl, hl, hc0, hc, h1⟩ := hI
        have ek := h1.ki hk
        have el := h1.ki hl
        have b1 := h1.cn (fun i => clP B C t w i && kP_ B k i)
        have b2 := h1.cn (fun i => clP B C t w i && kP_ B l i)
        have b8 := h1.W.1
        obtain ⟨χ3, σ3, e3, e4, h3⟩ := rl_ad h1 (by omega) (nI (cn (fun i => clP B C t w i && kP_ B k i) B.1)).toInt64
        show ∃ s' t', f_X11_shyest_s40 χ' (nI (bi (clP B C t w) B.1)) (nI l) c (nI k) = some (.inl s') ∧ f_X12_shyest_s37 σ' (nI (bi (clP B C t w) B.1)) (nI l) (nI k) = some (.inl t') ∧ _
        unfold f_X11_shyest_s40 f_X11_shyest_j87_40 f_X12_shyest_s37 f_X12_shyest_j79_37
        simp (disch := omega) only [li_1, li_3, c_leF, ek.1, ek.2, el.2, ob_s, nI_an, bi_and, h1.b16, e3, e4, nI_add]
        by_cases hk0 : k = 0
        · obtain ⟨rfl, rfl⟩ := hc0 hk0
          subst hk0
          rw [if_neg (show ¬ nI (cn (fun i => clP B C t w i && kP_ B 0 i) B.1) ≤ -1 from fun q => by
            rw [Int32.le_iff_toInt_le, nI_toInt (by omega)] at q
            have e : (-1 : Int32).toInt = -1 := rfl
            omega), if_neg (show ¬ nI (cn (fun i => clP B C t w i && kP_ B 0 i) B.1) ≤ -1 from fun q => by
            rw [Int32.le_iff_toInt_le, nI_toInt (by omega)] at q
            have e : (-1 : Int32).toInt = -1 := rfl
            omega), c_leT (by omega) (by omega)]
          exact ⟨_, _, rfl, rfl, 0, _, χ3, σ3, rfl, rfl, by omega, fun q => absurd q (by omega), fun _ => rfl, h3⟩
        · rw [hc (by omega)]
          by_cases hle : cn (fun i => clP B C t w i && kP_ B k i) B.1 ≤ cn (fun i => clP B C t w i && kP_ B l i) B.1
          · simp (disch := omega) only [c_leT]
            exact ⟨_, _, rfl, rfl, l, _, χ3, σ3, rfl, rfl, hl, fun q => absurd q (by omega), fun _ => rfl, h3⟩
          · simp (disch := omega) only [c_leF]
            exact ⟨_, _, rfl, rfl, k, _, χ3, σ3, rfl, rfl, hk, fun q => absurd q (by omega), fun _ => rfl, h3⟩)
      (fun s u hI => by
        obtain ⟨l, c, χ', σ', rfl, rfl, hl, hc0, hc, h1⟩ := hI
        exact ⟨_, _, rfl, rfl, _, χ', σ', rfl, rfl, h1⟩)
    rw [bi_nd e3, bi_nd e4]
    exact ⟨_, _, _, rfl, rfl, h3.rel⟩
theorem y_17 (χ σ : St) (h : Rel_ χ σ) : ∃ (v : Int32) (χ1 : St) (σ1 : St), f_X11_loudest χ = some (v, χ1) ∧ f_X12_loudest σ = some (v, σ1) ∧ Rel_ χ1 σ1 := by
  obtain ⟨B, T, m, C, h⟩ := h
  have h0 := h.th
  unfold f_X11_loudest f_X12_loudest
  obtain ⟨x, y, e1, e2, l, c, d, χ', σ', rfl, rfl, h1⟩ := it_twn (st1 := fun z : Int32 × Int32 × Int32 × Int32 × St => f_X11_loudest_s10 z.2.2.2.2 z.1 z.2.1 z.2.2.1 z.2.2.2.1) (st2 := fun z : Int32 × Int32 × Int32 × Int32 × St => f_X12_loudest_s16 z.2.2.2.2 z.1 z.2.1 z.2.2.1 z.2.2.2.1) (s := ((0 : Int32), (-1 : Int32), (8 : Int32), (0 : Int32), χ)) (t := ((0 : Int32), (-1 : Int32), (1000000 : Int32), (0 : Int32), (sF σ 300 0 (0 : Int32))))
    (fun k s u => ∃ l c d d' χ' σ', s = (l, c, nI d, nI k, χ') ∧ u = (l, c, nI d', nI k, σ') ∧ (k = 0 → c = -1 ∧ d = 8 ∧ d' = 1000000) ∧ (0 < k → d = d' ∧ d ≤ 8 ∧ ∃ c', c' ≤ 8 ∧ c = nI c') ∧ Rl_ B T m C χ' σ')
    (fun x y => ∃ l c d χ' σ', x = (l, c, d, χ') ∧ y = (l, c, d, σ') ∧ Rl_ B T m C χ' σ') 40 (by omega) ⟨_, _, 8, 1000000, _, _, rfl, rfl, fun _ => ⟨rfl, rfl, rfl⟩, fun q => absurd q (Nat.lt_irrefl _), h0⟩
    (fun k s u hk hI => by
      obtain ⟨l, c, d, d', χ', σ', rfl, rfl, hc0, hc, h1⟩ := hI
      obtain ⟨χ2, σ2, e1, e2, h2⟩ := rl_cq h1 hk
      have b1 := h1.cn (clP B C (k / 10) (k % 10))
      have b8 := h1.W.1
      show ∃ s' t', f_X11_loudest_s10 χ' l c (nI d) (nI k) = some (.inl s') ∧ f_X12_loudest_s16 σ' l c (nI d') (nI k) = some (.inl t') ∧ _
      unfold f_X11_loudest_s10 f_X11_loudest_j47_10 f_X12_loudest_s16 f_X12_loudest_j58_16
      simp (disch := omega) only [li_1, li_10, li_40, c_leF, pk_div, pk_rn, e1, e2, ob_s, h1.b16, nI_add]
      generalize cn (clP B C (k / 10) (k % 10)) B.1 = u1 at b1 ⊢
      by_cases hk0 : k = 0
      · obtain ⟨rfl, rfl, rfl⟩ := hc0 hk0
        subst hk0
        have q1 : ¬ nI u1 ≤ -1 := fun q => by
            rw [Int32.le_iff_toInt_le, nI_toInt (by omega)] at q
            have e : (-1 : Int32).toInt = -1 := rfl
            omega
        have q2 := nle_lt q1
        simp only [if_neg q1, if_pos q2]
        rw [nI_mi (by omega) (by omega), nI_mi (by omega) (by omega), Nat.min_eq_left (show u1 ≤ 8 by omega), Nat.min_eq_left (show u1 ≤ 1000000 by omega)]
        exact ⟨_, _, rfl, rfl, _, _, u1, u1, χ2, σ2, rfl, rfl, fun q => absurd q (by omega), fun _ => ⟨rfl, by omega, u1, by omega, rfl⟩, h2⟩
      · obtain ⟨rfl, hd8, c', hc8, rfl⟩ := hc (by omega)
        rw [nI_mi (by omega) (by omega)]
        have hm : min u1 d ≤ 8 := by omega
        by_cases hle : u1 ≤ c'
        · simp (disch := omega) only [c_leT, c_ltF]
          exact ⟨_, _, rfl, rfl, _, _, _, _, χ2, σ2, rfl, rfl, fun q => absurd q (by omega), fun _ => ⟨rfl, hm, c', by omega, rfl⟩, h2⟩
        · simp (disch := omega) only [c_leF, c_ltT]
          exact ⟨_, _, rfl, rfl, _, _, _, _, χ2, σ2, rfl, rfl, fun q => absurd q (by omega), fun _ => ⟨rfl, hm, u1, by omega, rfl⟩, h2⟩)
    (fun s u hI => by
      obtain ⟨l, c, d, d', χ', σ', rfl, rfl, hc0, hc, h1⟩ := hI
      obtain ⟨rfl, hd8, c', hc8, rfl⟩ := hc (by omega)
      exact ⟨_, _, rfl, rfl, _, _, _, χ', σ', rfl, rfl, h1⟩)
  rw [bi_nd e1, bi_nd e2]
  try dsimp only
  have h2 := rl_st h1
  obtain ⟨χ3, σ3, e3, e4, h3⟩ := rl_ad h2 (by omega) c.toInt64
  obtain ⟨χ4, σ4, e5, e6, h4⟩ := rl_ad h3 (by omega) d.toInt64
  simp only [x9_s0, ob_s, e3, e4, e5, e6]
  exact ⟨_, _, _, rfl, rfl, h4.rel⟩
/-- how long all are shut -/
def mxN (f : Nat → Nat) : Nat → Nat
  | 0 => 0
  | k + 1 => if mxN f k < f k then f k else mxN f k
theorem mxN_s (f : Nat → Nat) (k : Nat) : mxN f (k + 1) = if mxN f k < f k then f k else mxN f k := rfl
theorem mxN_le {f : Nat → Nat} {b n : Nat} (h : ∀ i, i < n → f i ≤ b) : mxN f n ≤ b := by
  induction n with
  | zero => exact Nat.zero_le _
  | succ n ih =>
    rw [mxN_s]
    have h1 := ih (fun i hi => h i (by omega))
    have h2 := h n (by omega)
    split <;> omega
theorem mxN_ge {f : Nat → Nat} {n i : Nat} (h : i < n) : f i ≤ mxN f n := by
  induction n with
  | zero => omega
  | succ n ih =>
    rw [mxN_s]
    by_cases e : i = n
    · subst e; split <;> omega
    · have := ih (by omega)
      split <;> omega
theorem Rl_.ca {B : Bd_} {T : Nat × (Nat → Nat)} {m : Nat} {C : Lw} {χ σ : St} (h : Rl_ B T m C χ σ) : f_X11_calm χ = some (nI (mxN (B.2.1 3) B.1)) := by
  have h8 := h.W.1
  unfold f_X11_calm
  refine bi_nd (it_for (fun k => (nI (mxN (B.2.1 3) k), nI k)) B.1 (by omega) rfl (fun k hk => ?_) ?_)
  · have h3 := h.W.b3 hk
    have hb : mxN (B.2.1 3) k ≤ 9 := mxN_le (fun i hi => h.W.b3 (by omega))
    show f_X11_calm_s4 χ (nI (mxN (B.2.1 3) k)) (nI k) = _
    unfold f_X11_calm_s4
    simp (disch := omega) only [h.b.n, show cA χ 36 k = nI (B.2.1 3 k) from h.b.k3 hk, li_1, c_leF, gd_n, nI_clamp, nI_add, c_ltN, nI_sI, mxN_s]
  · show f_X11_calm_s4 χ (nI (mxN (B.2.1 3) B.1)) (nI B.1) = _
    unfold f_X11_calm_s4
    simp (disch := omega) only [h.b.n, c_leT]
theorem y_20 (χ σ : St) (h : Rel_ χ σ) : ∃ (v : Int32) (σ1 : St), f_X11_calm χ = some v ∧ f_X12_calm σ = some (v, σ1) ∧ Rel_ χ σ1 := by
  obtain ⟨B, T, m, C, h⟩ := h
  have h0 := h.th
  have h8 := h.W.1
  refine ⟨_, _, h.ca, ?_, h0.rel⟩
  unfold f_X12_calm
  refine bi_nd (it_for (fun k => (nI (mxN (B.2.1 3) k), nI k)) B.1 (by omega) rfl (fun k hk => ?_) ?_)
  · have h3 := h.W.b3 hk
    have hb : mxN (B.2.1 3) k ≤ 9 := mxN_le (fun i hi => h.W.b3 (by omega))
    show f_X12_calm_s9 (sF σ 300 0 (0 : Int32)) (nI (mxN (B.2.1 3) k)) (nI k) = _
    unfold f_X12_calm_s9
    simp (disch := omega) only [h0.r.n, h0.r.k3 hk, li_1, li_16, c_leF, gd_n, nI_clamp, nI_add, c_ltN, nI_sI, mxN_s]
  · show f_X12_calm_s9 (sF σ 300 0 (0 : Int32)) (nI (mxN (B.2.1 3) B.1)) (nI B.1) = _
    unfold f_X12_calm_s9
    simp (disch := omega) only [h0.r.n, c_leT]
theorem y_23 (χ σ : St) (a1 : Int32) (h : Rel_ χ σ) : ∃ (v : Int32) (χ1 : St) (σ1 : St), f_X11_yes χ a1 = some (v, χ1) ∧ f_X12_yes σ a1 = some (v, σ1) ∧ Rel_ χ1 σ1 := by
  obtain ⟨B, T, m, C, h⟩ := h
  have h0 := h.th
  unfold f_X11_yes f_X12_yes
  rcases qu_ca a1 0 with ⟨q1, q2⟩ | ⟨t, w, ht, hw, rfl, -, q1, q2⟩
  · simp only [q1, q2, ob_s, c0_0]
    exact ⟨_, _, _, rfl, rfl, h0.rel⟩
  · have h1 := rl_st h0
    have ey := h0.ye ht
    obtain ⟨χ2, σ2, e3, e4, h2⟩ := rl_ad h1 (by omega) (nI (cn (fun i => yP_ B t i && oP_ B 0 i) B.1)).toInt64
    simp only [q1, q2, ob_s, c1_0, ey.1, ey.2, x9_s0, h1.op.1, h1.op.2, nI_an, bi_and, h.b16, e3, e4]
    obtain ⟨x, y, e5, e6, h3⟩ := it_twn (st1 := fun z : Int32 × St => f_X11_yes_s48 z.2 (nI (bi (yP_ B t) B.1)) z.1) (st2 := fun z : Int32 × St => f_X12_yes_s50 z.2 (nI (bi (yP_ B t) B.1)) z.1) (s := ((0 : Int32), χ2)) (t := ((0 : Int32), σ2))
      (fun k s u => s.1 = nI k ∧ u.1 = nI k ∧ Rl_ B T (1 + k) C s.2 u.2)
      (fun x y => Rl_ B T 4 C x y) 3 (by omega) ⟨rfl, rfl, h2⟩
      (fun k s u hk hI => by
        obtain ⟨s1, χ'⟩ := s
        obtain ⟨u1, σ'⟩ := u
        obtain ⟨rfl, rfl, h1⟩ := hI
        dsimp only at h1
        have ek := h1.ki hk
        obtain ⟨χ3, σ3, e3, e4, h3⟩ := rl_ad h1 (by omega) (nI (cn (fun i => yP_ B t i && kP_ B k i) B.1)).toInt64
        show ∃ s' t', f_X11_yes_s48 χ' (nI (bi (yP_ B t) B.1)) (nI k) = some (.inl s') ∧ f_X12_yes_s50 σ' (nI (bi (yP_ B t) B.1)) (nI k) = some (.inl t') ∧ _
        unfold f_X11_yes_s48 f_X12_yes_s50
        simp (disch := omega) only [li_1, li_3, c_leF, ek.1, ek.2, ob_s, nI_an, bi_and, h1.b16, e3, e4, nI_add]
        exact ⟨_, _, rfl, rfl, rfl, rfl, h3⟩)
      (fun s u hI => by
        obtain ⟨s1, χ'⟩ := s
        obtain ⟨u1, σ'⟩ := u
        obtain ⟨rfl, rfl, h1⟩ := hI
        exact ⟨_, _, rfl, rfl, h1⟩)
    rw [bi_nd e5, bi_nd e6]
    exact ⟨_, _, _, rfl, rfl, h3.rel⟩
theorem y_50 (χ σ : St) (a1 : Int32) (h : Rel_ χ σ) : ∃ (v : Int32) (σ1 : St), f_X11_count χ a1 = some v ∧ f_X12_count σ a1 = some (v, σ1) ∧ Rel_ χ σ1 := by
  obtain ⟨B, T, m, C, h⟩ := h
  have h0 := h.th
  obtain ⟨s1, s2, s3, s4, -⟩ := h0.S
  obtain ⟨g1, g2, g3, g4, -⟩ := h0.H
  obtain ⟨u0, u1, u2, u3, u4, u5, u6, -⟩ := h0.U
  obtain ⟨o1, o2, o3, -⟩ := h0.O
  obtain ⟨t1, t2, t3, -⟩ := h0.tx
  unfold f_X11_count f_X12_count
  by_cases c0 : a1 = 0
  · rw [if_pos c0, if_pos c0, h0.b.n, h0.r.n]; exact ⟨_, _, rfl, rfl, h0.rel⟩
  rw [if_neg c0, if_neg c0]
  by_cases c1 : a1 = 1
  · rw [if_pos c1, if_pos c1, bi_nd h0.op.1, bi_nd h0.op.2]; exact ⟨_, _, rfl, rfl, h0.rel⟩
  rw [if_neg c1, if_neg c1]
  by_cases c2 : a1 = 2
  · rw [if_pos c2, if_pos c2, h0.b.2.1]
    simp (disch := omega) only [li_32, gd_n, nI_clamp, h0.r.t]; exact ⟨_, _, rfl, rfl, h0.rel⟩
  rw [if_neg c2, if_neg c2]
  by_cases c3 : a1 = 3
  · rw [if_pos c3, if_pos c3, h0.b.2.2.1]
    simp (disch := omega) only [li_33, gd_n, nI_clamp, h0.r.a]; exact ⟨_, _, rfl, rfl, h0.rel⟩
  rw [if_neg c3, if_neg c3]
  by_cases c4 : a1 = 4
  · rw [if_pos c4, if_pos c4, bi_nd (x0_pe h0.W h0.b), bi_nd (x12_pe h0.W h0.r)]; exact ⟨_, _, rfl, rfl, h0.rel⟩
  rw [if_neg c4, if_neg c4]
  by_cases c5 : a1 = 5
  · rw [if_pos c5, if_pos c5, bi_nd (x0_fe h0.W h0.b), bi_nd (x12_fe h0.W h0.r)]; exact ⟨_, _, rfl, rfl, h0.rel⟩
  rw [if_neg c5, if_neg c5]
  by_cases c6 : a1 = 6
  · rw [if_pos c6, if_pos c6, s3, s4]; exact ⟨_, _, rfl, rfl, h0.rel⟩
  rw [if_neg c6, if_neg c6]
  by_cases c7 : a1 = 7
  · rw [if_pos c7, if_pos c7, g3, g4]; exact ⟨_, _, rfl, rfl, h0.rel⟩
  rw [if_neg c7, if_neg c7]
  by_cases c8 : a1 = 8
  · rw [if_pos c8, if_pos c8, u5, u6]; exact ⟨_, _, rfl, rfl, h0.rel⟩
  rw [if_neg c8, if_neg c8]
  by_cases c9 : a1 = 9
  · rw [if_pos c9, if_pos c9, o2, o3]; exact ⟨_, _, rfl, rfl, h0.rel⟩
  rw [if_neg c9, if_neg c9]
  by_cases c10 : a1 = 10
  · rw [if_pos c10, if_pos c10, t2, t3]; exact ⟨_, _, rfl, rfl, h0.rel⟩
  rw [if_neg c10, if_neg c10]
  exact ⟨_, _, rfl, rfl, h0.rel⟩
