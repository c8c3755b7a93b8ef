/-! LAYER 2: slips. -/
theorem pj_le {q p : Nat} (hq : q ≤ 10) (hp : p ≤ 10) : ∀ a b i, pj_ q p a b i ≤ 10 ^ (a + b) := by
  have st : ∀ (M x y c : Nat), c ≤ 10 → x ≤ M → y ≤ M → x * (10 - c) + y * c ≤ M * 10 := by
    intro M x y c hc hx hy
    have h1 := Nat.mul_le_mul_right (10 - c) hx
    have h2 := Nat.mul_le_mul_right c hy
    have h3 : M * (10 - c) + M * c = M * 10 := by rw [← Nat.mul_add, show 10 - c + c = 10 by omega]
    omega
  intro a
  induction a with
  | zero =>
    intro b
    induction b with
    | zero => intro i; rw [pj_0]; split <;> omega
    | succ b ih =>
      intro i
      rw [pj_b, show 0 + (b + 1) = (0 + b) + 1 by omega, Nat.pow_succ]
      refine st _ _ _ p hp (ih i) ?_
      split
      · exact Nat.zero_le _
      · exact ih _
  | succ a ih =>
    intro b i
    rw [pj_a, show a + 1 + b = (a + b) + 1 by omega, Nat.pow_succ]
    refine st _ _ _ q hq (ih b i) ?_
    split
    · exact Nat.zero_le _
    · exact ih b _
theorem x1_sl {n a b p : Nat} (hn : n ≤ 8) (ha : a ≤ 8) (hb : b ≤ 8) (hp : p ≤ 10) : f_X1_slipsTo (nI n) (nI a) (nI b) (nI p) = some (lN (pj_ (10 - p) p a b n)) := by
  unfold f_X1_slipsTo
  refine bi_nd (it_for (fun k => (lN (su (fun j => js_ (10 - p) a j * js_ p b (n - j)) k), nI k)) (n + 1) (by omega) rfl (fun k hk => ?_) ?_)
  · show f_X1_slipsTo_s6 (nI n) (nI a) (nI b) (nI p) (lN (su (fun j => js_ (10 - p) a j * js_ p b (n - j)) k)) (nI k) = _
    unfold f_X1_slipsTo_s6
    simp (disch := omega) only [li_1, li_10, c_ltF, pk_sub, x1_js, ob_s, lN_mul, lN_add, nI_add, su_s]
  · show f_X1_slipsTo_s6 (nI n) (nI a) (nI b) (nI p) (lN (su (fun j => js_ (10 - p) a j * js_ p b (n - j)) (n + 1))) (nI (n + 1)) = _
    unfold f_X1_slipsTo_s6
    simp (disch := omega) only [c_ltT]
    rfl
theorem cn_sp {c o : Nat → Bool} (h : ∀ k, c k = true → o k = true) (n : Nat) : cn o n = cn c n + cn (fun k => o k && !c k) n := by
  induction n with
  | zero => rfl
  | succ n ih =>
    rw [cn_s, cn_s, cn_s, ih]
    have hn := h n
    cases hc : c n
    · cases ho : o n
      · simp
      · simp; omega
    · rw [hn hc]; simp; omega
/-- one oyster more, in the row of ways -/
theorem x12_wy {τ : St} {W : Nat → Nat} {y3 y4 y5 y6 y9 : Int32} {y7 : Int64} {c : Nat} (hc : c ≤ 10) (hW : ∀ i, i ≤ 8 → cL τ 334 i = lN (W i)) : ∃ s, iter (fun z : Int32 × St => f_X12_slips_s156 z.2 y3 y4 y5 y6 y7 y9 (nI c) z.1) FU ((8 : Int32), τ) = some s ∧ SR τ s ∧ ∀ i, i ≤ 8 → cL s 334 i = lN (W i * (10 - c) + (if i = 0 then 0 else W (i - 1)) * c) := by
  refine it_inv (fun j z => z.1 = (if j ≤ 8 then nI (8 - j) else -1) ∧ SR τ z.2 ∧ ∀ i, i ≤ 8 → cL z.2 334 i = if 8 < i + j then lN (W i * (10 - c) + (if i = 0 then 0 else W (i - 1)) * c) else lN (W i)) (fun s => SR τ s ∧ ∀ i, i ≤ 8 → cL s 334 i = lN (W i * (10 - c) + (if i = 0 then 0 else W (i - 1)) * c)) 9 (by omega) ⟨rfl, SR.rf _, fun i hi => by rw [if_neg (by omega)]; exact hW i hi⟩ (fun j z hj hI => ?_) (fun z hI => ?_)
  · obtain ⟨z1, s⟩ := z
    obtain ⟨h1, hs, hL⟩ := hI
    dsimp only at h1 hs hL
    rw [if_pos (by omega)] at h1
    subst h1
    have hi := hL (8 - j) (by omega)
    rw [if_neg (by omega)] at hi
    have hf : ∀ v, v = lN (W (8 - j) * (10 - c) + (if 8 - j = 0 then 0 else W (8 - j - 1)) * c) → ∀ i, i ≤ 8 → cL (sL s 334 (8 - j) v) 334 i = if 8 < i + (j + 1) then lN (W i * (10 - c) + (if i = 0 then 0 else W (i - 1)) * c) else lN (W i) := by
      intro v hv i hi8
      by_cases e : i = 8 - j
      · subst e
        rw [rLs, hv, if_pos (show 8 < 8 - j + (j + 1) by omega)]
      · rw [rLj e, hL i hi8]
        by_cases q : 8 < i + j
        · rw [if_pos q, if_pos (show 8 < i + (j + 1) by omega)]
        · rw [if_neg q, if_neg (show ¬ 8 < i + (j + 1) by omega)]
    show ∃ s', f_X12_slips_s156 s y3 y4 y5 y6 y7 y9 (nI c) (nI (8 - j)) = some (.inl s') ∧ _
    unfold f_X12_slips_s156 f_X12_slips_j179_156
    by_cases hj8 : j = 8
    · subst hj8
      simp (disch := omega) only [li_0, li_10, lj_0, c_ltF, c_leT, gd_n, nI_clamp, hi, pk_sub, nI_to, lN_mul, lN_add]
      refine ⟨_, rfl, rfl, hs.tr (sr_lo (by omega)), ?_⟩
      exact hf _ rfl
    · have hi2 := hL (8 - j - 1) (by omega)
      rw [if_neg (by omega)] at hi2
      simp (disch := omega) only [li_0, li_1, li_10, c_ltF, c_leF, gd_n, nI_clamp, hi, hi2, pk_sub, ad_m1, nI_to, lN_mul, lN_add]
      refine ⟨_, rfl, ?_, hs.tr (sr_lo (by omega)), ?_⟩
      · dsimp only
        rw [if_pos (by omega), show 8 - j - 1 = 8 - (j + 1) by omega]
      · exact hf _ (by rw [if_neg (by omega)])
  · obtain ⟨z1, s⟩ := z
    obtain ⟨h1, hs, hL⟩ := hI
    dsimp only at h1 hs hL
    rw [if_neg (by omega)] at h1
    subst h1
    refine ⟨s, ?_, hs, fun i hi => ?_⟩
    · show f_X12_slips_s156 s y3 y4 y5 y6 y7 y9 (nI c) (-1) = _
      unfold f_X12_slips_s156
      rw [if_pos (by decide)]
    · rw [hL i hi, if_pos (show 8 < i + 9 by omega)]
theorem y_42 (χ σ : St) (a1 a2 a3 a4 : Int32) (h : Rel_ χ σ) : ∃ (v : Int32) (χ1 : St) (σ1 : St), f_X11_slips χ a1 a2 a3 a4 = some (v, χ1) ∧ f_X12_slips σ a1 a2 a3 a4 = some (v, σ1) ∧ Rel_ χ1 σ1 := by
  obtain ⟨B, T, m, C, h⟩ := h
  have h0 := h.th
  have h8 := h.W.1
  unfold f_X11_slips f_X12_slips
  generalize sF σ 300 0 (0 : Int32) = σ0 at h0 ⊢
  rcases qu_ca a1 a2 with ⟨q1, q2⟩ | ⟨t, w, ht, hw, rfl, rfl, q1, q2⟩
  · simp only [q1, q2, ob_s, c0_0]
    exact ⟨_, _, _, rfl, rfl, h0.rel⟩
  simp only [q1, q2, ob_s, c1_0]
  rcases in_ca a3 0 10 (by omega) (by omega) with ⟨q3, q4⟩ | ⟨p, -, hp, rfl, q3⟩
  · refine ⟨-1, χ, σ0, ?_, ?_, h0.rel⟩
    · by_cases hz : a3 < 0
      · rw [if_pos hz]
      · rw [if_neg hz, if_pos (show (10 : Int32) < a3 from q4.resolve_left hz)]
    · rw [bi_nd (show f_X12_in a3.toInt64 (0 : Int64) (10 : Int64) = some 0 from q3)]
      rfl
  rw [if_neg (show ¬ nI p < 0 from nI_pos (by omega)), if_neg (show ¬ (10 : Int32) < nI p from nI_nlt (a := 10) hp (by omega)), bi_nd (show f_X12_in (nI p).toInt64 (0 : Int64) (10 : Int64) = some 1 from q3), c1_0]
  rcases in_ca a4 0 8 (by omega) (by omega) with ⟨q5, q6⟩ | ⟨n, -, hn, rfl, q5⟩
  · refine ⟨-1, χ, σ0, ?_, ?_, h0.rel⟩
    · by_cases hz : a4 < 0
      · rw [if_pos hz]
      · rw [if_neg hz, if_neg (show ¬ a4 ≤ (8 : Int32) from lt_le (q6.resolve_left hz))]
    · rw [bi_nd (show f_X12_in a4.toInt64 (0 : Int64) (8 : Int64) = some 0 from q5)]
      rfl
  rw [if_neg (show ¬ nI n < 0 from nI_pos (by omega)), if_pos (show nI n ≤ (8 : Int32) from nI_le (b := 8) hn (by omega)), bi_nd (show f_X12_in (nI n).toInt64 (0 : Int64) (8 : Int64) = some 1 from q5), c1_0]
  obtain ⟨χ1, σ1, e1, e2, h1⟩ := rl_cl (w := w) h0 ht
  have hco : ∀ k, clP B C t w k = true → oP_ B 0 k = true := by
    intro k hk
    unfold clP at hk
    rw [Bool.and_eq_true] at hk
    exact hk.1
  have hsp := cn_sp hco
  have ca := cn_le (clP B C t w) B.1
  have cb := cn_le (fun k => oP_ B 0 k && !clP B C t w k) B.1
  have co := cn_le (oP_ B 0) B.1
  have hbo := bi_31 (oP_ B 0) (n := B.1) (by omega)
  have hbc := bi_31 (clP B C t w) (n := B.1) (by omega)
  -- the row of ways at first
  obtain ⟨s2, e3, hs2, hL2⟩ : ∃ s, iter (fun z : Int32 × St => f_X12_slips_s68 z.2 (nI p) (nI n) (nI (bi (clP B C t w) B.1)) (nI (bi (oP_ B 0) B.1)) (1 : Int64) z.1) FU ((0 : Int32), σ1) = some s ∧ SR σ1 s ∧ ∀ i, i ≤ 8 → cL s 334 i = lN (pj_ (10 - p) p 0 0 i) := by
    refine it_inv (fun k z => z.1 = nI k ∧ SR σ1 z.2 ∧ ∀ i, i < k → cL z.2 334 i = lN (pj_ (10 - p) p 0 0 i)) _ 9 (by omega) ⟨rfl, SR.rf _, fun i hi => absurd hi (Nat.not_lt_zero _)⟩ (fun k z hk hI => ?_) (fun z hI => ?_)
    · obtain ⟨z1, s⟩ := z
      obtain ⟨rfl, hs, hL⟩ := hI
      have hf : ∀ v, v = lN (pj_ (10 - p) p 0 0 k) → ∀ i, i < k + 1 → cL (sL s 334 k v) 334 i = lN (pj_ (10 - p) p 0 0 i) := by
        intro v hv i hi
        by_cases e : i = k
        · subst e; rw [rLs, hv]
        · rw [rLj e]; exact hL i (by omega)
      show ∃ s', f_X12_slips_s68 s (nI p) (nI n) (nI (bi (clP B C t w) B.1)) (nI (bi (oP_ B 0) B.1)) (1 : Int64) (nI k) = some (.inl s') ∧ _
      unfold f_X12_slips_s68 f_X12_slips_j91_68
      by_cases hk0 : k = 0
      · subst hk0
        simp (disch := omega) only [li_0, li_1, li_8, c_ltF, c_eqT, if_true, fl_1, ob_s, gd_n, nI_clamp, nI_add, nI_to]
        exact ⟨_, rfl, rfl, hs.tr (sr_lo (by omega)), hf _ (by rw [pj_0, if_pos rfl])⟩
      · simp (disch := omega) only [li_0, li_1, li_8, c_ltF, c_eqF, fl_0, ob_s, gd_n, nI_clamp, nI_add, nI_to]
        exact ⟨_, rfl, rfl, hs.tr (sr_lo (by omega)), hf _ (by rw [pj_0, if_neg hk0])⟩
    · obtain ⟨z1, s⟩ := z
      obtain ⟨rfl, hs, hL⟩ := hI
      refine ⟨s, ?_, hs, fun i hi => hL i (by omega)⟩
      show f_X12_slips_s68 s (nI p) (nI n) (nI (bi (clP B C t w) B.1)) (nI (bi (oP_ B 0) B.1)) (1 : Int64) (nI 9) = _
      unfold f_X12_slips_s68
      simp (disch := omega) only [li_8, c_ltT]
  -- all oysters
  obtain ⟨x, e4, hx1, hx2, hx3⟩ := it_inv (step := fun z : Int64 × Int32 × St => f_X12_slips_s105 z.2.2 (nI p) (nI n) (nI (bi (clP B C t w) B.1)) (nI (bi (oP_ B 0) B.1)) z.1 z.2.1) (s := ((1 : Int64), (0 : Int32), s2))
    (fun k z => z.1 = lN (10 ^ cn (oP_ B 0) k) ∧ z.2.1 = nI k ∧ SR σ1 z.2.2 ∧ ∀ i, i ≤ 8 → cL z.2.2 334 i = lN (pj_ (10 - p) p (cn (clP B C t w) k) (cn (fun k => oP_ B 0 k && !clP B C t w k) k) i))
    (fun x => x.1 = lN (10 ^ cn (oP_ B 0) B.1) ∧ SR σ1 x.2 ∧ ∀ i, i ≤ 8 → cL x.2 334 i = lN (pj_ (10 - p) p (cn (clP B C t w) B.1) (cn (fun k => oP_ B 0 k && !clP B C t w k) B.1) i)) B.1 (by omega) ⟨rfl, rfl, hs2, hL2⟩
    (fun k z hk hI => by
      obtain ⟨z1, z2, s⟩ := z
      obtain ⟨rfl, rfl, hs, hL⟩ := hI
      dsimp only at hs hL
      have hn2 : cF s 300 3 = nI B.1 := (hs.1.1 3 (by omega)).trans h1.r.n
      have tb1 : (bi (oP_ B 0) B.1).testBit k = oP_ B 0 k := by rw [bi_tb, decide_eq_true hk]; rfl
      have tb2 : (bi (clP B C t w) B.1).testBit k = clP B C t w k := by rw [bi_tb, decide_eq_true hk]; rfl
      show ∃ s', f_X12_slips_s105 s (nI p) (nI n) (nI (bi (clP B C t w) B.1)) (nI (bi (oP_ B 0) B.1)) (lN (10 ^ cn (oP_ B 0) k)) (nI k) = some (.inl s') ∧ _
      unfold f_X12_slips_s105 f_X12_slips_j142_105 f_X12_slips_j215_105
      simp (disch := omega) only [hn2, li_0, li_1, li_10, lj_10, c_leF, x12_ha, ob_s, tb1, tb2, nI_add, lN_mul, pk_sub]
      have hck := hco k
      cases hc : clP B C t w k
      · cases ho : oP_ B 0 k
        · simp (disch := omega) only [Bool.toNat_false, c_eqT, if_true]
          refine ⟨_, rfl, ?_, rfl, hs, ?_⟩
          · rw [cn_s, ho]; rfl
          · rw [cn_s, cn_s, hc, ho]; exact hL
        · simp (disch := omega) only [Bool.toNat_false, Bool.toNat_true, c_eqT, c_eqF, if_true]
          obtain ⟨s3, e5, hs3, hL3⟩ := x12_wy (τ := s) (y3 := nI p) (y4 := nI n) (y5 := nI (bi (clP B C t w) B.1)) (y6 := nI (bi (oP_ B 0) B.1)) (y9 := nI k) (y7 := lN (10 ^ cn (oP_ B 0) k * 10)) hp hL
          refine ⟨_, bi_nd e5, ?_, rfl, hs.tr hs3, fun i hi => ?_⟩
          · show lN (10 ^ cn (oP_ B 0) k * 10) = _
            rw [cn_s, ho, if_pos rfl, Nat.pow_succ]
          · show cL s3 334 i = _
            rw [hL3 i hi, cn_s, cn_s, hc, ho]
            exact congrArg lN pj_b.symm
      · rw [hck hc]
        simp (disch := omega) only [Bool.toNat_true, c_eqF]
        obtain ⟨s3, e5, hs3, hL3⟩ := x12_wy (τ := s) (y3 := nI p) (y4 := nI n) (y5 := nI (bi (clP B C t w) B.1)) (y6 := nI (bi (oP_ B 0) B.1)) (y9 := nI k) (y7 := lN (10 ^ cn (oP_ B 0) k * 10)) (show 10 - p ≤ 10 by omega) hL
        refine ⟨_, bi_nd e5, ?_, rfl, hs.tr hs3, fun i hi => ?_⟩
        · show lN (10 ^ cn (oP_ B 0) k * 10) = _
          rw [cn_s, hck hc, if_pos rfl, Nat.pow_succ]
        · show cL s3 334 i = _
          rw [hL3 i hi, cn_s, cn_s, hc, hck hc]
          exact congrArg lN pj_a.symm)
    (fun z hI => by
      obtain ⟨z1, z2, s⟩ := z
      obtain ⟨rfl, rfl, hs, hL⟩ := hI
      dsimp only at hs hL
      have hn2 : cF s 300 3 = nI B.1 := (hs.1.1 3 (by omega)).trans h1.r.n
      refine ⟨(lN (10 ^ cn (oP_ B 0) B.1), s), ?_, rfl, hs, hL⟩
      show f_X12_slips_s105 s (nI p) (nI n) (nI (bi (clP B C t w) B.1)) (nI (bi (oP_ B 0) B.1)) (lN (10 ^ cn (oP_ B 0) B.1)) (nI B.1) = _
      unfold f_X12_slips_s105
      simp (disch := omega) only [hn2, c_leT])
  obtain ⟨x1, s3⟩ := x
  dsimp only at hx1 hx2 hx3
  subst hx1
  have hpl := pj_le (q := 10 - p) (p := p) (by omega) hp (cn (clP B C t w) B.1) (cn (fun k => oP_ B 0 k && !clP B C t w k) B.1) n
  rw [← hsp B.1] at hpl
  have h10 : 10 ^ cn (oP_ B 0) B.1 ≤ 100000000 := Nat.le_trans (Nat.pow_le_pow_right (by omega) (show cn (oP_ B 0) B.1 ≤ 8 by omega)) (by decide)
  have h10p : 0 < 10 ^ cn (oP_ B 0) B.1 := Nat.pow_pos (by omega)
  have h2 : Rl_ B T m C χ1 s3 := h1.sc (SC_.rf _) hx2
  obtain ⟨χ4, σ4, e6, e7, h4⟩ := rl_fr h2 (a := pj_ (10 - p) p (cn (clP B C t w) B.1) (cn (fun k => oP_ B 0 k && !clP B C t w k) B.1) n) (b := 10 ^ cn (oP_ B 0) B.1) (by omega) h10p (by omega)
  have e8 := x1_sl (n := n) (a := cn (clP B C t w) B.1) (b := cn (fun k => oP_ B 0 k && !clP B C t w k) B.1) (p := p) hn (by omega) (by omega) hp
  have e9 : f_X1_raised (10 : Int32) (nI (cn (oP_ B 0) B.1)) = some (lN (10 ^ cn (oP_ B 0) B.1)) := x1_rp (t := 10) (by omega) (by omega)
  have e10 : nI (cn (oP_ B 0) B.1) - nI (cn (clP B C t w) B.1) = nI (cn (fun k => oP_ B 0 k && !clP B C t w k) B.1) := by
    rw [hsp B.1, pk_sub (by omega)]
    congr 1
    omega
  simp only [gd_t h0.L.i1, e1, e2, ob_s, h1.b16, h1.op.1, h1.op.2, x9_s0, e10, e8, e9, e6, bi_nd e3, bi_nd e4]
  rw [gd_n (by omega) (by omega), nI_clamp (by omega), hx3 n hn, bi_nd e7]
  exact ⟨_, _, _, rfl, rfl, h4.rel⟩
