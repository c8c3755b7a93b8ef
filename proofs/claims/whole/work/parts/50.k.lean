/-! LAYER 2: what is seen and heard, sheets, one oyster's numbers, the row's. -/
theorem rl_bd {B B' : Bd_} {T : Nat × (Nat → Nat)} {m : Nat} {C : Lw} {χ χ' σ σ' : St} (h : Rl_ B T m C χ σ) (hn : B'.1 = B.1) (hW : WB B') (hf : FC_ 32 ((cW χ).1 + 4) χ χ') (hg : FR 306 σ σ') (hb : BC_ 32 B' χ') (hr : BR 306 0 B' σ') : Rl_ B' T m C χ' σ' := by
  have hw := h.L.w
  obtain ⟨f1, f2, f3, f4⟩ := hf
  obtain ⟨g1, g2, g3⟩ := hg
  have gA : ∀ p, p ≠ 306 → p ≠ 319 → p ≠ 320 → cA σ' p = cA σ p := g3
  refine ⟨hW, hb, hr, h.tx.cg (f3 1 (by omega)) (f4 2 (by omega) (by omega)) (by rw [g1]) (gA 308 (by omega) (by omega) (by omega)), h.O.cg (f3 3 (by omega)) (by rw [f1]) (by rw [g1]) (by rw [g2]), ?_, ?_, ?_, ?_, ?_⟩
  · rw [hn]
    exact h.U.cg (f3 5 (by omega)) (fun p h1 h2 => f3 p (by omega)) (fun p h1 h2 => f4 p (by omega) (by omega)) (by rw [g1]) (by rw [g1]) (gA 305 (by omega) (by omega) (by omega)) (gA 322 (by omega) (by omega) (by omega))
  · rw [hn]
    exact h.K.cg (f4 8 (by omega) (by omega)) (fun p h1 h2 => f3 p (by omega)) (fun p h1 h2 => f4 p (by omega) (by omega)) (by rw [g1]) (by rw [g1]) (gA 305 (by omega) (by omega) (by omega)) (gA 338 (by omega) (by omega) (by omega)) (gA 339 (by omega) (by omega) (by omega)) (gA 340 (by omega) (by omega) (by omega))
  · exact h.S.cg (f3 9 (by omega)) (f4 10 (by omega) (by omega)) (f4 11 (by omega) (by omega)) (f4 12 (by omega) (by omega)) (by rw [g1]) (gA 328 (by omega) (by omega) (by omega)) (gA 329 (by omega) (by omega) (by omega))
  · exact h.H.cg (f3 13 (by omega)) (f4 14 (by omega) (by omega)) (f4 15 (by omega) (by omega)) (by rw [g1]) (gA 332 (by omega) (by omega) (by omega)) (gA 333 (by omega) (by omega) (by omega))
  · exact h.L.cg f2 (f3 _ (by omega)) (f4 _ (by omega) (by omega)) (by rw [g1]) (gA 315 (by omega) (by omega) (by omega))
/-- a number put between 0 and 9 -/
def cl9 (x : Int32) : Int32 := if (0 : Int32) < (if x < (9 : Int32) then x else (9 : Int32)) then (if x < (9 : Int32) then x else (9 : Int32)) else (0 : Int32)
theorem cl9_n (x : Int32) : ∃ j, j ≤ 9 ∧ cl9 x = nI j := by
  unfold cl9
  by_cases h1 : x < (9 : Int32)
  · rw [if_pos h1]
    by_cases h2 : (0 : Int32) < x
    · rw [if_pos h2]
      have h3 : ¬ x < 0 := fun q => by
        rw [Int32.lt_iff_toInt_lt] at h2 q
        omega
      obtain ⟨j, hj, rfl⟩ := nI_of h3
      have := (nI_ltI (b := 9) hj (by omega)).mp h1
      exact ⟨j, by omega, rfl⟩
    · rw [if_neg h2]; exact ⟨0, by omega, rfl⟩
  · rw [if_neg h1, if_pos (by decide)]; exact ⟨9, by omega, rfl⟩
/-- a sheet's numbers come to the bed: on both sides the same ones -/
theorem rl_sh {B : Bd_} {T : Nat × (Nat → Nat)} {m : Nat} {C : Lw} {χ σ : St} (h : Rl_ B T m C χ σ) (a1 n f s n' f' s' : Int32) (hv : ∀ k x5, k < B.1 → x5 = f + nI k * s → ∃ v, v ≤ 9 ∧ (∀ τ, f_X0_takeFears_j29_3 32 τ a1 n' f' s' (nI k) (if n' ≤ nI k then (0 : Int32) else f' + nI k * s') = some (.inl (nI (k + 1), sA τ 34 k (nI v)))) ∧ ∀ τ, f_X12_sheet_j75_43 τ a1 n s x5 (nI k) (if a1 = 0 then x5.toInt8.toInt32 else (if a1 = (1 : Int32) then x5.toInt16.toInt32 else x5)) = some (.inl (x5 + s, nI (k + 1), sA τ 306 k (nI v)))) :
    ∃ B' χ' σ', f_X0_takeFears χ 32 a1 n' f' s' = some χ' ∧ iter (fun z : Int32 × Int32 × St => f_X12_sheet_s43 z.2.2 a1 n s z.1 z.2.1) FU (f, (0 : Int32), σ) = some σ' ∧ Rl_ B' T m C χ' σ' := by
  have h8 := h.W.1
  obtain ⟨χ', σ', e1, e2, B', hn, hR⟩ := it_twn (st1 := fun z : Int32 × St => f_X0_takeFears_s3 32 z.2 a1 n' f' s' z.1) (st2 := fun z : Int32 × Int32 × St => f_X12_sheet_s43 z.2.2 a1 n s z.1 z.2.1) (s := ((0 : Int32), χ)) (t := (f, (0 : Int32), σ))
    (fun k u w => ∃ B' χ' σ', B'.1 = B.1 ∧ u = (nI k, χ') ∧ w = (f + nI k * s, nI k, σ') ∧ Rl_ B' T m C χ' σ') (fun x y => ∃ B', B'.1 = B.1 ∧ Rl_ B' T m C x y) B.1 (by omega) ⟨B, χ, σ, rfl, rfl, by
      rw [show (nI 0 : Int32) = 0 from rfl, Int32.zero_mul, Int32.add_zero], h⟩
    (fun k u w hk hI => by
      obtain ⟨B', χ', σ', hn, rfl, rfl, hR⟩ := hI
      obtain ⟨v, hv9, e1, e2⟩ := hv k _ hk rfl
      show ∃ s1 t1, f_X0_takeFears_s3 32 χ' a1 n' f' s' (nI k) = some (.inl s1) ∧ f_X12_sheet_s43 σ' a1 n s (f + nI k * s) (nI k) = some (.inl t1) ∧ _
      unfold f_X0_takeFears_s3 f_X12_sheet_s43
      rw [hR.b.n, hR.r.n, hn, if_neg (nI_ge hk (by omega)), if_neg (nI_ge hk (by omega)), e1, e2]
      refine ⟨_, _, rfl, rfl, se_B B' 1 k v, sA χ' 34 k (nI v), sA σ' 306 k (nI v), hn, rfl, ?_, ?_⟩
      · rw [← nI_1, Int32.add_mul, Int32.one_mul, Int32.add_assoc]
      · exact rl_bd hR rfl (hR.W.se ⟨by omega, fun _ => hv9, by omega, by omega, by omega⟩) ((FC_.rf _ _ _).sA (by omega)) (FR.rf _ _).sA (hR.b.se (j := 1) rfl (by omega)) (hR.r.se hR.W (j := 0) (by omega) (by omega) (by rw [hn]; exact hk) (by omega)))
    (fun u w hI => by
      obtain ⟨B', χ', σ', hn, rfl, rfl, hR⟩ := hI
      refine ⟨χ', σ', ?_, ?_, B', hn, hR⟩
      · show f_X0_takeFears_s3 32 χ' a1 n' f' s' (nI B.1) = _
        unfold f_X0_takeFears_s3
        rw [hR.b.n, hn, if_pos (nI_le (Nat.le_refl _) (by omega))]
      · show f_X12_sheet_s43 σ' a1 n s (f + nI B.1 * s) (nI B.1) = _
        unfold f_X12_sheet_s43
        rw [hR.r.n, hn, if_pos (nI_le (Nat.le_refl _) (by omega))])
  refine ⟨B', χ', σ', ?_, e2, hR⟩
  unfold f_X0_takeFears
  exact bi_nd e1
theorem y_5 (χ σ : St) (a1 a2 a3 a4 : Int32) (h : Rel_ χ σ) : ∃ (v : Int32) (χ1 : St) (σ1 : St), f_X11_sheet χ a1 a2 a3 a4 = some (v, χ1) ∧ f_X12_sheet σ a1 a2 a3 a4 = some (v, σ1) ∧ Rel_ χ1 σ1 := by
  obtain ⟨B, T, m, C, h⟩ := h
  have h0 := h.th
  have h8 := h.W.1
  unfold f_X11_sheet f_X12_sheet
  generalize sF σ 300 0 (0 : Int32) = σ0 at h0 ⊢
  rcases in_ca a1 0 3 (by omega) (by omega) with ⟨q1, q2⟩ | ⟨kd, -, hk, rfl, q1⟩
  · refine ⟨-1, χ, σ0, ?_, ?_, h0.rel⟩
    · by_cases hz : a1 < 0
      · rw [if_pos hz]
      · rw [if_neg hz, if_pos (show (3 : Int32) < a1 from q2.resolve_left hz)]
    · rw [bi_nd (show f_X12_in a1.toInt64 (0 : Int64) (3 : Int64) = some 0 from q1)]; rfl
  rw [if_neg (show ¬ nI kd < 0 from nI_pos (by omega)), if_neg (show ¬ (3 : Int32) < nI kd from nI_nlt (a := 3) hk (by omega)), bi_nd (show f_X12_in (nI kd).toInt64 (0 : Int64) (3 : Int64) = some 1 from q1), c1_0]
  by_cases hn8 : a2 ≤ (8 : Int32)
  · rw [if_pos hn8, if_pos hn8]
    by_cases h3 : kd = 3
    · subst h3
      rw [if_pos (show nI 3 = (3 : Int32) from rfl), if_pos (show nI 3 = (3 : Int32) from rfl)]
      obtain ⟨B', χ', σ', e1, e2, hR⟩ := rl_sh h0 (nI 3) a2 a3 a4 0 0 0 (fun k x5 hk _ => ⟨0, by omega, fun τ => by
        unfold f_X0_takeFears_j29_3 f_X0_takeFears_j53_3
        rw [if_pos (show (0 : Int32) ≤ nI k from nI_pos' (by omega)), if_neg (show ¬ nI 3 = 0 by decide), if_neg (show ¬ nI 3 = (1 : Int32) by decide), gd_n (by omega) (by omega), nI_clamp (by omega), nI_1]
        rfl, fun τ => by
        unfold f_X12_sheet_j75_43 f_X12_sheet_j94_43 f_X12_sheet_j109_43
        rw [if_pos (show nI 3 = (3 : Int32) from rfl), gd_n (by omega) (by omega), nI_clamp (by omega), nI_1]
        rfl⟩)
      unfold f_X12_sheet_j37
      rw [bi_nd e1, bi_nd e2]
      exact ⟨_, _, _, rfl, rfl, hR.rel⟩
    · rw [if_neg (show ¬ nI kd = (3 : Int32) from fun q => h3 ((nI_eq (b := 3) (by omega) (by omega)).mp q)), if_neg (show ¬ nI kd = (3 : Int32) from fun q => h3 ((nI_eq (b := 3) (by omega) (by omega)).mp q))]
      by_cases hp : 0 ≤ a2
      · rw [if_pos hp, if_pos hp]
        obtain ⟨B', χ', σ', e1, e2, hR⟩ := rl_sh h0 (nI kd) a2 a3 a4 a2 a3 a4 (fun k x5 hk2 hx => by
          by_cases hq : a2 ≤ nI k
          · refine ⟨0, by omega, fun τ => ?_, fun τ => ?_⟩
            · unfold f_X0_takeFears_j29_3 f_X0_takeFears_j53_3
              rw [if_pos hq, gd_n (by omega) (by omega), nI_clamp (by omega), nI_1]
              have hc : kd = 0 ∨ kd = 1 ∨ kd = 2 := by omega
              rcases hc with rfl | rfl | rfl <;> rfl
            · unfold f_X12_sheet_j75_43 f_X12_sheet_j94_43 f_X12_sheet_j109_43
              rw [if_neg (show ¬ nI kd = (3 : Int32) from fun q => h3 ((nI_eq (b := 3) (by omega) (by omega)).mp q)), if_neg (le_lt hq), gd_n (by omega) (by omega), nI_clamp (by omega), nI_1]
              rfl
          · obtain ⟨j, hj, ej⟩ := cl9_n (if nI kd = 0 then x5.toInt8.toInt32 else (if nI kd = (1 : Int32) then x5.toInt16.toInt32 else x5))
            refine ⟨j, hj, fun τ => ?_, fun τ => ?_⟩
            · unfold f_X0_takeFears_j29_3 f_X0_takeFears_j53_3
              rw [if_neg hq, ← hx, gd_n (by omega) (by omega), nI_clamp (by omega), nI_1]
              show some (Sum.inl (nI (k + 1), sA τ 34 k (cl9 _))) = _
              rw [ej]
            · unfold f_X12_sheet_j75_43 f_X12_sheet_j94_43 f_X12_sheet_j109_43
              rw [if_neg (show ¬ nI kd = (3 : Int32) from fun q => h3 ((nI_eq (b := 3) (by omega) (by omega)).mp q)), if_pos (nle_lt hq), gd_n (by omega) (by omega), nI_clamp (by omega), nI_1]
              show some (Sum.inl (_, nI (k + 1), sA τ 306 k (cl9 _))) = _
              rw [ej])
        unfold f_X12_sheet_j37
        rw [bi_nd e1, bi_nd e2, if_neg (show ¬ nI kd = (3 : Int32) from fun q => h3 ((nI_eq (b := 3) (by omega) (by omega)).mp q)), bi_nd (x0_fe hR.W hR.b), bi_nd (x12_fe hR.W hR.r)]
        exact ⟨_, _, _, rfl, rfl, hR.rel⟩
      · rw [if_neg hp, if_neg hp]
        exact ⟨_, _, _, rfl, rfl, h0.rel⟩
  · rw [if_neg hn8, if_neg hn8]
    exact ⟨_, _, _, rfl, rfl, h0.rel⟩
theorem th_0 {σ : St} : f_X12_thrown (sF σ 300 0 0) = some 0 := by
  unfold f_X12_thrown
  rw [rFs]
theorem y_4 (χ σ : St) (a1 a2 : Int32) (h : Rel_ χ σ) : ∃ (q : Option Int32) (v : Int32) (σ1 : St), f_X11_oyster χ a1 a2 = some q ∧ f_X12_oyster σ a1 a2 = some (v, σ1) ∧ f_X12_thrown σ1 = some (if q.isSome then 0 else 1) ∧ (∀ u, q = some u → u = v) ∧ Rel_ χ σ1 := by
  obtain ⟨B, T, m, C, h⟩ := h
  have h0 := h.th
  have h8 := h.W.1
  have ht := th_0 (σ := σ)
  unfold f_X11_oyster f_X12_oyster f_X12_oyster_j25 f_X12_refuse
  generalize sF σ 300 0 (0 : Int32) = σ0 at h0 ht ⊢
  have href : Rl_ B T m C χ (sF σ0 300 0 (1 : Int32)) := h0.sc (SC_.rf _) sr_th
  have hth : f_X12_thrown (sF σ0 300 0 (1 : Int32)) = some 1 := by unfold f_X12_thrown; rw [rFs]
  rcases os_ca h0.W h0.b h0.r a1 with ⟨q1, q2⟩ | ⟨o, ho, rfl, q1, q2⟩
  · simp only [q1, q2, ob_s, c0_0]
    exact ⟨_, _, _, rfl, rfl, hth, (fun u e => by cases e), href.rel⟩
  simp only [q1, q2, ob_s, c1_0]
  rcases in_ca a2 0 4 (by omega) (by omega) with ⟨q3, q4⟩ | ⟨k, -, hk, rfl, q3⟩
  · have hne : ∀ j, j ≤ 4 → ¬ a2 = nI j := by
      intro j hj e
      rw [e] at q4
      rcases q4 with q | q
      · exact nI_nlt (Nat.zero_le _) (by omega) q
      · exact nI_nlt hj (by omega) q
    rw [bi_nd (show f_X12_in a2.toInt64 (0 : Int64) (4 : Int64) = some 0 from q3), c0_0, if_neg (show ¬ a2 = (0 : Int32) from hne 0 (by omega)), if_neg (show ¬ a2 = (1 : Int32) from hne 1 (by omega)), if_neg (show ¬ a2 = (2 : Int32) from hne 2 (by omega)), if_neg (show ¬ a2 = (3 : Int32) from hne 3 (by omega)), if_neg (show ¬ a2 = (4 : Int32) from hne 4 (by omega))]
    exact ⟨_, _, _, rfl, rfl, hth, (fun u e => by cases e), href.rel⟩
  · rw [bi_nd (show f_X12_in (nI k).toInt64 (0 : Int64) (4 : Int64) = some 1 from q3), c1_0]
    have v0 := h0.b.k0 ho
    have v1 := h0.b.k1 ho
    have v2 := h0.b.k2 ho
    have v3 := h0.b.k3 ho
    have v4 := h0.b.k4 ho
    have w0 := h0.r.k0 ho
    have w1 := h0.r.k1 ho
    have w2 := h0.r.k2 ho
    have w3 := h0.r.k3 ho
    have w4 := h0.r.k4 ho
    have hc : k = 0 ∨ k = 1 ∨ k = 2 ∨ k = 3 ∨ k = 4 := by omega
    rcases hc with rfl | rfl | rfl | rfl | rfl
    · simp (disch := omega) only [li_0, li_1, li_2, li_3, li_4, li_8, c_eqT, c_eqF, if_true, gd_n, nI_clamp, w0, show cA χ 33 o = _ from v0]
      exact ⟨_, _, _, rfl, rfl, ht, fun u e => (Option.some.inj e).symm, h0.rel⟩
    · simp (disch := omega) only [li_0, li_1, li_2, li_3, li_4, li_8, c_eqT, c_eqF, if_true, pk_sub, pk_mul, nI_add, gd_n, nI_clamp, show (1 - 1) * 8 + o = o by omega, w1, show cA χ 34 o = _ from v1]
      exact ⟨_, _, _, rfl, rfl, ht, fun u e => (Option.some.inj e).symm, h0.rel⟩
    · simp (disch := omega) only [li_0, li_1, li_2, li_3, li_4, li_8, c_eqT, c_eqF, if_true, pk_sub, pk_mul, nI_add, gd_n, nI_clamp, show (2 - 1) * 8 + o = 8 + o by omega, w2, show cA χ 35 o = _ from v2]
      exact ⟨_, _, _, rfl, rfl, ht, fun u e => (Option.some.inj e).symm, h0.rel⟩
    · simp (disch := omega) only [li_0, li_1, li_2, li_3, li_4, li_8, c_eqT, c_eqF, if_true, pk_sub, pk_mul, nI_add, gd_n, nI_clamp, show (3 - 1) * 8 + o = 16 + o by omega, w3, show cA χ 36 o = _ from v3]
      exact ⟨_, _, _, rfl, rfl, ht, fun u e => (Option.some.inj e).symm, h0.rel⟩
    · simp (disch := omega) only [li_0, li_1, li_2, li_3, li_4, li_8, c_eqT, c_eqF, if_true, pk_sub, pk_mul, nI_add, gd_n, nI_clamp, show (4 - 1) * 8 + o = 24 + o by omega, w4, show cA χ 37 o = _ from v4]
      exact ⟨_, _, _, rfl, rfl, ht, fun u e => (Option.some.inj e).symm, h0.rel⟩
theorem y_51 (χ σ : St) (a1 : Int32) (h : Rel_ χ σ) : ∃ (q : Option Int64) (v : Int64) (σ1 : St), f_X11_row χ a1 = some q ∧ f_X12_row σ a1 = some (v, σ1) ∧ f_X12_thrown σ1 = some (if q.isSome then 0 else 1) ∧ (∀ u, q = some u → u = v) ∧ Rel_ χ σ1 := by
  obtain ⟨B, T, m, C, h⟩ := h
  have h0 := h.th
  have ht := th_0 (σ := σ)
  unfold f_X11_row f_X11_row_j15 f_X12_row f_X12_in
  generalize sF σ 300 0 (0 : Int32) = σ0 at h0 ht ⊢
  have href : Rl_ B T m C χ (sF σ0 300 0 (1 : Int32)) := h0.sc (SC_.rf _) sr_th
  have hth : f_X12_thrown (sF σ0 300 0 (1 : Int32)) = some 1 := by unfold f_X12_thrown; rw [rFs]
  obtain ⟨o1, o2, o3, o4⟩ := h0.O
  rw [o2, o3]
  have hA : lg_cmp a1.toInt64 (0 : Int64) < 0 ↔ a1 < 0 := (lg_cmp_lt _ _).trans (l_toI a1 (n := 0) (by omega)).1
  by_cases h1 : a1 < 0
  · rw [if_pos h1, if_pos (hA.mpr h1), ob_s, c0_0]
    exact ⟨_, _, _, rfl, rfl, hth, (fun u e => by cases e), href.rel⟩
  · obtain ⟨j, hj, rfl⟩ := nI_of h1
    rw [if_neg h1, if_neg (fun q => h1 (hA.mp q))]
    have h2 : (0 < lg_cmp (nI j).toInt64 ((nI m - 1).toInt64)) ↔ m ≤ j := by
      rw [lg_cmp_gt, Int64.lt_iff_toInt_lt, Int32.toInt_toInt64, Int32.toInt_toInt64, nI_toInt hj, show (1 : Int32) = nI 1 from rfl, pk_sub_toInt (by omega) (by omega)]
      omega
    by_cases h3 : m ≤ j
    · rw [if_neg (nI_nlt h3 hj), if_pos (h2.mpr h3), ob_s, c0_0]
      exact ⟨_, _, _, rfl, rfl, hth, (fun u e => by cases e), href.rel⟩
    · rw [if_pos (nI_lt (by omega) (by omega)), if_neg (fun q => h3 (h2.mp q)), ob_s, c1_0, gd_n (by omega) (by omega), gd_n (by omega) (by omega), nI_clamp hj, o4 j (by omega)]
      exact ⟨_, _, _, rfl, rfl, ht, fun u e => (Option.some.inj e).symm, h0.rel⟩
