/-! LAYER 2: sign, end. -/
theorem rl_tx {B : Bd_} {T T' : Nat × (Nat → Nat)} {m : Nat} {C : Lw} {χ χ' σ σ' : St} (h : Rl_ B T m C χ σ) (hT : RT T' χ' σ') (w1 : cW χ' = cW χ) (w2 : cL χ' = cL χ) (f3 : ∀ p, p ≠ 1 → cF χ' p = cF χ p) (f4 : ∀ p, p ≠ 2 → cA χ' p = cA χ p) (g1 : ∀ j, j = 1 ∨ j = 3 ∨ j = 4 ∨ j = 17 ∨ j = 21 ∨ j = 27 ∨ j = 31 → cF σ' 300 j = cF σ 300 j) (g2 : cL σ' = cL σ) (g3 : ∀ p, p = 305 ∨ p = 306 ∨ p = 315 ∨ p = 322 ∨ p = 328 ∨ p = 329 ∨ p = 332 ∨ p = 333 ∨ p = 338 ∨ p = 339 ∨ p = 340 → cA σ' p = cA σ p) : Rl_ B T' m C χ' σ' := by
  have hw := h.L.w
  refine ⟨h.W, h.b.cg (f3 32 (by omega)) (fun j _ _ => f4 _ (by omega)), h.r.cg (g1 3 (by omega)) (g3 305 (by omega)) (g3 306 (by omega)), hT, h.O.cg (f3 3 (by omega)) (by rw [w2]) (g1 1 (by omega)) (by rw [g2]), ?_, ?_, ?_, ?_, ?_⟩
  · exact h.U.cg (f3 5 (by omega)) (fun p _ _ => f3 p (by omega)) (fun p _ _ => f4 p (by omega)) (g1 21 (by omega)) (g1 3 (by omega)) (g3 305 (by omega)) (g3 322 (by omega))
  · exact h.K.cg (f4 8 (by omega)) (fun p _ _ => f3 p (by omega)) (fun p _ _ => f4 p (by omega)) (g1 4 (by omega)) (g1 3 (by omega)) (g3 305 (by omega)) (g3 338 (by omega)) (g3 339 (by omega)) (g3 340 (by omega))
  · exact h.S.cg (f3 9 (by omega)) (f4 10 (by omega)) (f4 11 (by omega)) (f4 12 (by omega)) (g1 27 (by omega)) (g3 328 (by omega)) (g3 329 (by omega))
  · exact h.H.cg (f3 13 (by omega)) (f4 14 (by omega)) (f4 15 (by omega)) (g1 31 (by omega)) (g3 332 (by omega)) (g3 333 (by omega))
  · exact h.L.cg w1 (f3 _ (by omega)) (f4 _ (by omega)) (g1 17 (by omega)) (g3 315 (by omega))
theorem ys_1 (χ σ : St) (a1 : Int32) (h : Rel_ χ σ) : ∃ (v : Int32) (χ1 : St) (σ1 : St), f_X11_end χ a1 = some (v, χ1) ∧ f_X12_end σ a1 = some (v, σ1) ∧ Rel_ χ1 σ1 := by
  obtain ⟨B, T, m, C, h⟩ := h
  have h0 := h.th
  unfold f_X11_end f_X12_end f_X8_cutTo
  generalize sF σ 300 0 (0 : Int32) = σ0 at h0 ⊢
  obtain ⟨t1, t2, t3, t4⟩ := h0.tx
  rw [t2, t3, nI_to (by omega)]
  rcases in_ca a1 0 T.1 (by omega) (by omega) with ⟨q1, q2⟩ | ⟨n, -, hn, rfl, q1⟩
  · refine ⟨0, χ, σ0, ?_, ?_, h0.rel⟩
    · by_cases hz : a1 < 0
      · rw [if_pos hz, ob_s]; exact gd_t nb_0
      · rw [if_neg hz, if_neg (lt_le (q2.resolve_left hz)), ob_s]; exact gd_t nb_0
    · rw [bi_nd (show f_X12_in a1.toInt64 (0 : Int64) (lN T.1) = some 0 from q1)]; rfl
  rw [bi_nd (show f_X12_in (nI n).toInt64 (0 : Int64) (lN T.1) = some 1 from q1), c1_0, if_neg (show ¬ nI n < 0 from nI_pos (by omega)), if_pos (nI_le hn (by omega)), ob_s]
  exact ⟨_, _, _, gd_t nb_1, rfl, Rl_.rel (rl_tx (T' := (n, T.2)) h0 ⟨by show n ≤ 80; omega, rFs, rFs, fun i hi => t4 i (by have : i < n := hi; omega)⟩ rfl rfl (fun p hp => rFp hp) (fun p _ => rfl) (fun j hj => rFj (by omega)) rfl (fun p _ => rfl))⟩
/-- a sign of v, j-th highest byte -/
def sg_ (v : Int32) (j : Nat) : Nat := v.toBitVec.toNat / 2 ^ (24 - 8 * j) % 256
theorem sg_c (v : Int32) (j : Nat) (hj : j < 4) : (((v.toUInt32 >>> ((nI (24 - 8 * j)).toUInt32 &&& Int32.toUInt32 31)).toInt32 &&& (255 : Int32)).toUInt32 % 65536).toInt32 = nI (sg_ v j) := by
  have h := pk_ushrN (n := v.toBitVec.toNat) v.toBitVec.isLt (nI (24 - 8 * j)) (24 - 8 * j) ((by decide +kernel : ∀ k, k < 32 → (((nI k).toUInt32 &&& Int32.toUInt32 31).toBitVec % 32).toNat = k) _ (by omega))
  rw [← nI_of32] at h
  have hm : ∀ a, a < 256 → ((nI a).toUInt32 % 65536).toInt32 = nI a := by decide +kernel
  rw [h, show (255 : Int32) = nI 255 from rfl, nI_an, show (255 : Nat) = 2 ^ 8 - 1 from rfl, Nat.and_two_pow_sub_one_eq_mod, hm _ (Nat.mod_lt _ (by omega))]
  rfl
theorem sg_r (v : Int32) (j : Nat) (hj : j < 4) : (v >>> (nI (24 - 8 * j) &&& 31)) &&& nI 255 = nI (sg_ v j) := by
  have e1 : (v >>> (nI (24 - 8 * j) &&& 31)) &&& nI 255 = (v.toUInt32 >>> ((nI (24 - 8 * j)).toUInt32 &&& Int32.toUInt32 31)).toInt32 &&& nI 255 := by
    have h1 := sl_31 (24 - 8 * j) (by omega)
    have h2 := (by decide +kernel : ∀ k, k < 32 → (((nI k).toUInt32 &&& Int32.toUInt32 31).toBitVec % 32).toNat = k) (24 - 8 * j) (by omega)
    apply Int32.toBitVec_inj.1
    show (v.toBitVec.sshiftRight ((nI (24 - 8 * j) &&& 31).toBitVec.smod 32).toNat) &&& 255#32 = (v.toBitVec >>> (((nI (24 - 8 * j)).toUInt32 &&& Int32.toUInt32 31).toBitVec % 32)) &&& 255#32
    rw [BitVec.ushiftRight_eq', h1, h2]
    apply BitVec.eq_of_getLsbD_eq
    intro i hi
    rw [BitVec.getLsbD_and, BitVec.getLsbD_and, BitVec.getLsbD_sshiftRight, BitVec.getLsbD_ushiftRight]
    by_cases h8 : i < 8
    · rw [if_pos (show 24 - 8 * j + i < 32 by omega)]
      simp [show ¬ 32 ≤ i by omega]
    · have : (255#32).getLsbD i = false := by
        rw [BitVec.getLsbD_ofNat]
        rw [show (255 : Nat) = 2 ^ 8 - 1 from rfl, Nat.testBit_two_pow_sub_one]
        simp [h8]
      rw [this]
      simp
  have h := pk_ushrN (n := v.toBitVec.toNat) v.toBitVec.isLt (nI (24 - 8 * j)) (24 - 8 * j) ((by decide +kernel : ∀ k, k < 32 → (((nI k).toUInt32 &&& Int32.toUInt32 31).toBitVec % 32).toNat = k) _ (by omega))
  rw [← nI_of32] at h
  rw [e1, h, nI_an, show (255 : Nat) = 2 ^ 8 - 1 from rfl, Nat.and_two_pow_sub_one_eq_mod]
  rfl
theorem vc_n : ∀ a, a < 256 → vp_nar .char (nI a) = nI a := by decide +kernel
theorem ys_0 (χ σ : St) (a1 : Int32) (h : Rel_ χ σ) : ∃ (v : Int32) (χ1 : St) (σ1 : St), f_X11_sign χ a1 = some (v, χ1) ∧ f_X12_sign σ a1 = some (v, σ1) ∧ Rel_ χ1 σ1 := by
  obtain ⟨B, T, m, C, h⟩ := h
  have h0 := h.th
  unfold f_X11_sign f_X12_sign
  generalize sF σ 300 0 (0 : Int32) = σ0 at h0 ⊢
  obtain ⟨t1, t2, t3, t4⟩ := h0.tx
  rw [t2, t3, show (4 : Int32) = nI 4 from rfl, nI_add]
  by_cases hT : T.1 ≤ 76
  · rw [if_pos (show nI (T.1 + 4) ≤ (80 : Int32) from nI_le (b := 80) (by omega) (by omega)), if_pos (show nI T.1 ≤ (76 : Int32) from nI_le (b := 76) hT (by omega))]
    have hsg : ∀ j, sg_ a1 j < 256 := fun j => Nat.mod_lt _ (by omega)
    obtain ⟨x, e1, x1, x2, x3, x4, x5, x6⟩ : ∃ x, iter (fun z : Int32 × St => f_X11_sign_s19 z.2 a1 z.1) FU ((24 : Int32), χ) = some x ∧ cL x = cL χ ∧ cW x = cW χ ∧ (∀ p, p ≠ 1 → cF x p = cF χ p) ∧ (∀ p, p ≠ 2 → cA x p = cA χ p) ∧ cF x 1 1 = nI (T.1 + 4) ∧ ∀ i, cA x 2 i = if T.1 ≤ i ∧ i < T.1 + 4 then nI (sg_ a1 (i - T.1)) else cA χ 2 i := by
      refine it_inv (fun j z => z.1 = (if j ≤ 3 then nI (24 - 8 * j) else -8) ∧ cL z.2 = cL χ ∧ cW z.2 = cW χ ∧ (∀ p, p ≠ 1 → cF z.2 p = cF χ p) ∧ (∀ p, p ≠ 2 → cA z.2 p = cA χ p) ∧ cF z.2 1 1 = nI (T.1 + j) ∧ ∀ i, cA z.2 2 i = if T.1 ≤ i ∧ i < T.1 + j then nI (sg_ a1 (i - T.1)) else cA χ 2 i) _ 4 (by omega) ⟨rfl, rfl, rfl, fun _ _ => rfl, fun _ _ => rfl, t2, fun i => by rw [if_neg (by omega)]⟩ (fun j z hj hI => ?_) (fun z hI => ?_)
      · obtain ⟨z1, s⟩ := z
        obtain ⟨i1, i2, i3, i4, i5, i6, i7⟩ := hI
        dsimp only at i1 i2 i3 i4 i5 i6 i7
        rw [if_pos (by omega)] at i1
        subst i1
        have hs := sg_c a1 j hj
        show ∃ s', f_X11_sign_s19 s a1 (nI (24 - 8 * j)) = some (.inl s') ∧ _
        unfold f_X11_sign_s19 f_X8_put
        rw [if_neg (show ¬ nI (24 - 8 * j) < 0 from nI_pos (by omega)), hs, i6, if_neg (show ¬ (80 : Int32) ≤ nI (T.1 + j) from nI_ge (b := 80) (by omega) (by omega)), gd_n (by omega) (by omega), nI_clamp (by omega), vc_n _ (hsg j), ob_s]
        refine ⟨_, rfl, ?_, i2, i3, fun p hp => (rFp hp).trans (i4 p hp), fun p hp => (rAp hp).trans (i5 p hp), ?_, fun i => ?_⟩
        · show nI (24 - 8 * j) + (-8 : Int32) = if j + 1 ≤ 3 then nI (24 - 8 * (j + 1)) else -8
          have hc : j = 0 ∨ j = 1 ∨ j = 2 ∨ j = 3 := by omega
          clear hs
          rcases hc with rfl | rfl | rfl | rfl <;> decide
        · dsimp only
          rw [rFs, rFA, i6, nI_1]
          rfl
        · dsimp only
          rw [rAF]
          by_cases e : i = T.1 + j
          · subst e
            rw [rAs, if_pos (by omega), show T.1 + j - T.1 = j by omega]
          · rw [rAj e, i7 i]
            by_cases q : T.1 ≤ i ∧ i < T.1 + j
            · rw [if_pos q, if_pos (by omega)]
            · rw [if_neg q, if_neg (by omega)]
      · obtain ⟨z1, s⟩ := z
        obtain ⟨i1, i2, i3, i4, i5, i6, i7⟩ := hI
        dsimp only at i1 i2 i3 i4 i5 i6 i7
        rw [if_neg (by omega)] at i1
        subst i1
        refine ⟨s, ?_, i2, i3, i4, i5, i6, i7⟩
        show f_X11_sign_s19 s a1 (-8) = _
        unfold f_X11_sign_s19
        rw [if_pos (by decide)]
    obtain ⟨y, e2, r1, r2, r3, r4, r5, r6⟩ := it_row (step := fun z : Int32 × St => f_X12_sign_s18 z.2 a1 z.1) (σ := σ0) (p := 308) (o := T.1) (N := 4) (f := fun j => nI (sg_ a1 j)) (by omega)
      (fun j s hj q1 q2 q3 q4 q5 => by
        have g9 : cF s 300 9 = nI T.1 := by rw [q1]; exact t3
        have hs := sg_r a1 j hj
        show f_X12_sign_s18 s a1 (nI j) = _
        unfold f_X12_sign_s18
        simp (disch := omega) only [li_1, li_4, li_8, li_24, li_255, c_leF, gd_n, nI_clamp, nI_add, g9, pk_mul, pk_sub, hs])
      (fun s q1 => by
        show f_X12_sign_s18 s a1 (nI 4) = _
        unfold f_X12_sign_s18
        simp (disch := omega) only [li_4, c_leT])
    rw [bi_nd e1, bi_nd e2, x5, r1, t3, nI_add, rFs]
    refine ⟨_, x, _, rfl, rfl, Rl_.rel (rl_tx (T' := (T.1 + 4, fun i => if i < T.1 then T.2 i else sg_ a1 (i - T.1))) h0 ⟨by show T.1 + 4 ≤ 80; omega, x5, rFs, fun i hi => ?_⟩ x2 x1 x3 x4 (fun j hj => (rFj (by omega)).trans (by rw [r1])) r2 (fun p hp => r4 p (by omega)))⟩
    have hi4 : i < T.1 + 4 := hi
    dsimp only
    by_cases q : i < T.1
    · obtain ⟨u1, u2, u3⟩ := t4 i q
      rw [if_pos q]
      refine ⟨u1, ?_, ?_⟩
      · rw [x6, if_neg (by omega)]; exact u2
      · rw [rAF, r6 i (by omega)]; exact u3
    · rw [if_neg q]
      refine ⟨hsg _, ?_, ?_⟩
      · rw [x6, if_pos (by omega)]
      · have := r5 (i - T.1) (by omega)
        rw [show T.1 + (i - T.1) = i by omega] at this
        rw [rAF]; exact this
  · rw [if_neg (show ¬ nI (T.1 + 4) ≤ (80 : Int32) from nI_ge (a := 80) (by omega) (by omega)), if_neg (show ¬ nI T.1 ≤ (76 : Int32) from nI_ge (a := 76) (by omega) (by omega))]
    exact ⟨_, _, _, rfl, rfl, h0.rel⟩
