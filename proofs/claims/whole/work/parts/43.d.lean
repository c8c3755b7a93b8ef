/-! LAYER 2: nearest, jury, rules, parties; what a set counts. -/
theorem y_26 (χ σ : St) (h : Rel_ χ σ) : ∃ (v : Int32) (χ1 : St) (σ1 : St), f_X11_nearest χ = some (v, χ1) ∧ f_X12_nearest σ = some (v, σ1) ∧ Rel_ χ1 σ1 := by
  obtain ⟨B, T, m, C, h⟩ := h
  have h0 := h.th
  have h8 := h.W.1
  unfold f_X11_nearest f_X12_nearest
  generalize sF σ 300 0 (0 : Int32) = σ0 at h0 ⊢
  -- least so far, by whom; the row of the reference
  obtain ⟨x, y, e1, e2, l, a, b, l', σ', rfl, rfl, hr⟩ := it_twn (st1 := fun z : Int32 × Int32 × Int32 × Int32 => f_X11_nearest_s9 χ z.1 z.2.1 z.2.2.1 z.2.2.2) (st2 := fun z : Int32 × Int32 × St => f_X12_nearest_s11 z.2.2 z.1 z.2.1) (s := ((5 : Int32), (0 : Int32), (0 : Int32), (0 : Int32))) (t := ((1000000 : Int32), (0 : Int32), σ0))
    (fun k s u => ∃ l a b l' σ', s = (nI l, a, b, nI k) ∧ u = (nI l', nI k, σ') ∧ ((l = 5 ∧ l' = 1000000 ∧ Rl_ B T m C χ σ') ∨ (l ≤ 4 ∧ l' = l ∧ ∃ σ'', Rl_ B T 0 C (sF χ 3 1 0) (sF σ'' 300 1 0) ∧ ((f_X12_enters (sF σ'' 300 1 0) a.toInt64).bind fun q => f_X12_enters q b.toInt64) = some σ')))
    (fun x y => ∃ l a b l' σ', x = (nI l, a, b) ∧ y = (nI l', σ') ∧ ((l = 5 ∧ l' = 1000000 ∧ Rl_ B T m C χ σ') ∨ (l ≤ 4 ∧ l' = l ∧ ∃ σ'', Rl_ B T 0 C (sF χ 3 1 0) (sF σ'' 300 1 0) ∧ ((f_X12_enters (sF σ'' 300 1 0) a.toInt64).bind fun q => f_X12_enters q b.toInt64) = some σ'))) B.1 (by omega) ⟨5, 0, 0, 1000000, σ0, rfl, rfl, Or.inl ⟨rfl, rfl, h0⟩⟩
    (fun k s u hk hI => by
      obtain ⟨l, a, b, l', σ', rfl, rfl, hr⟩ := hI
      have hr3 : ∀ τ, ((l = 5 ∧ l' = 1000000 ∧ Rl_ B T m C χ τ) ∨ (l ≤ 4 ∧ l' = l ∧ ∃ σ'', Rl_ B T 0 C (sF χ 3 1 0) (sF σ'' 300 1 0) ∧ ((f_X12_enters (sF σ'' 300 1 0) a.toInt64).bind fun q => f_X12_enters q b.toInt64) = some τ)) → cF τ 300 3 = nI B.1 := by
        intro τ hq
        rcases hq with ⟨-, -, q⟩ | ⟨-, -, σ'', q, r⟩
        · exact q.r.n
        · obtain ⟨c1, d1, f1, f2, w1⟩ := rl_ad q (by omega) a.toInt64
          obtain ⟨c2, d2, f3, f4, w2⟩ := rl_ad w1 (by omega) b.toInt64
          rw [bi_nd f2, f4] at r
          rw [← Option.some.inj r]
          exact w2.r.n
      have hn2 := hr3 σ' hr
      obtain ⟨x, y, e1, e2, l2, a2, b2, l2', σ2, rfl, rfl, hr2⟩ := it_twn (st1 := fun z : Int32 × Int32 × Int32 × Int32 => f_X11_nearest_s27 χ (nI k) z.1 z.2.1 z.2.2.1 z.2.2.2) (st2 := fun z : Int32 × Int32 × St => f_X12_nearest_s23 z.2.2 (nI k) z.1 z.2.1) (s := (nI l, a, b, nI (k + 1))) (t := (nI l', nI (k + 1), σ'))
        (fun j s u => ∃ l a b l' σ', s = (nI l, a, b, nI (k + 1 + j)) ∧ u = (nI l', nI (k + 1 + j), σ') ∧ ((l = 5 ∧ l' = 1000000 ∧ Rl_ B T m C χ σ') ∨ (l ≤ 4 ∧ l' = l ∧ ∃ σ'', Rl_ B T 0 C (sF χ 3 1 0) (sF σ'' 300 1 0) ∧ ((f_X12_enters (sF σ'' 300 1 0) a.toInt64).bind fun q => f_X12_enters q b.toInt64) = some σ')))
        (fun x y => ∃ l a b l' σ', x = (nI l, a, b) ∧ y = (nI l', σ') ∧ ((l = 5 ∧ l' = 1000000 ∧ Rl_ B T m C χ σ') ∨ (l ≤ 4 ∧ l' = l ∧ ∃ σ'', Rl_ B T 0 C (sF χ 3 1 0) (sF σ'' 300 1 0) ∧ ((f_X12_enters (sF σ'' 300 1 0) a.toInt64).bind fun q => f_X12_enters q b.toInt64) = some σ'))) (B.1 - (k + 1)) (by omega) ⟨l, a, b, l', σ', rfl, rfl, hr⟩
        (fun j s u hj hJ => by
          obtain ⟨l, a, b, l', σ', rfl, rfl, hr⟩ := hJ
          -- what the reference's state tells
          have hst : ∃ m', Rl_ B T m' C (sF χ 3 1 0) (sF σ' 300 1 0) ∧ cF σ' 300 3 = nI B.1 ∧ cA σ' 306 (8 + k) = nI (B.2.1 2 k) ∧ cA σ' 306 (8 + (k + 1 + j)) = nI (B.2.1 2 (k + 1 + j)) := by
            rcases hr with ⟨-, -, q⟩ | ⟨-, -, σ'', q, r⟩
            · exact ⟨0, rl_st q, q.r.n, (q.v hk).2.1, (q.v (k := k + 1 + j) (by omega)).2.1⟩
            · obtain ⟨c1, d1, f1, f2, w1⟩ := rl_ad q (by omega) a.toInt64
              obtain ⟨c2, d2, f3, f4, w2⟩ := rl_ad w1 (by omega) b.toInt64
              rw [bi_nd f2, f4] at r
              have hd := Option.some.inj r
              subst hd
              have w3 := (rl_st w2)
              refine ⟨0, ?_, w2.r.n, (w2.v hk).2.1, (w2.v (k := k + 1 + j) (by omega)).2.1⟩
              refine q.so (SO.rf _) ?_ ⟨by omega, rFs, rFs, fun i hi => by omega⟩
              have g1 : d1 = _ := Option.some.inj (f2.symm.trans (x12_ent (m := 0) rFs (by omega)))
              have g2 : d2 = _ := Option.some.inj (f4.symm.trans (x12_ent w1.O.2.2.1 (by omega)))
              rw [g2, g1]
              exact (sp_told.tr sp_told).tr sp_tol0
          obtain ⟨m', w0, hn, hv1, hv2⟩ := hst
          obtain ⟨v1, -, v3⟩ := h.v hk
          obtain ⟨u1, -, u3⟩ := h.v (k := k + 1 + j) (by omega)
          have hx := xr_lt v3 u3
          have hp4 : ∀ x, x < 16 → pop_ x ≤ 4 := by decide +kernel
          have hb := hp4 _ hx
          show ∃ s' t', f_X11_nearest_s27 χ (nI k) (nI l) a b (nI (k + 1 + j)) = some (.inl s') ∧ f_X12_nearest_s23 σ' (nI k) (nI l') (nI (k + 1 + j)) = some (.inl t') ∧ _
          unfold f_X11_nearest_s27 f_X11_nearest_j80_27 f_X12_nearest_s23 f_X12_nearest_j80_23 f_X12_apart
          have hl5 : l ≤ 5 ∧ l' ≤ 1000000 ∧ ((l = 5 ∧ l' = 1000000) ∨ l' = l) := by
            rcases hr with ⟨q1, q2, -⟩ | ⟨q1, q2, -⟩ <;> omega
          simp (disch := omega) only [h.b.n, hn, v1, u1, hv1, hv2, li_1, li_8, c_leF, gd_n, nI_clamp, nI_add, nI_xo, bc_16, ob_s]
          by_cases hle : l ≤ pop_ (B.2.1 2 k ^^^ B.2.1 2 (k + 1 + j))
          · have hl2 : l' = l := by omega
            subst hl2
            simp (disch := omega) only [c_leT]
            exact ⟨_, _, rfl, rfl, l', a, b, l', σ', by rw [Nat.add_assoc (k + 1)], by rw [Nat.add_assoc (k + 1)], hr⟩
          · obtain ⟨c1, d1, f1, f2, w1⟩ := rl_ad (m := 0) (χ := sF χ 3 1 0) (σ := sF σ' 300 1 0) (w0.so (SO.rf _) (SP.rf _) ⟨by omega, rFs, rFs, fun i hi => by omega⟩) (by omega) (nI k).toInt64
            obtain ⟨c2, d2, f3, f4, w2⟩ := rl_ad w1 (by omega) (nI (k + 1 + j)).toInt64
            simp (disch := omega) only [c_leF]
            rw [bi_nd f2, bi_nd f4]
            refine ⟨_, _, rfl, rfl, _, _, _, _, d2, by rw [Nat.add_assoc (k + 1)], by rw [Nat.add_assoc (k + 1)], Or.inr ⟨hb, rfl, σ', w0.so (SO.rf _) (SP.rf _) ⟨by omega, rFs, rFs, fun i hi => by omega⟩, ?_⟩⟩
            rw [bi_nd f2, f4])
        (fun s u hJ => by
          obtain ⟨l, a, b, l', σ', rfl, rfl, hr⟩ := hJ
          have hn : cF σ' 300 3 = nI B.1 := by
            rcases hr with ⟨-, -, q⟩ | ⟨-, -, σ'', q, r⟩
            · exact q.r.n
            · obtain ⟨c1, d1, f1, f2, w1⟩ := rl_ad q (by omega) a.toInt64
              obtain ⟨c2, d2, f3, f4, w2⟩ := rl_ad w1 (by omega) b.toInt64
              rw [bi_nd f2, f4] at r
              rw [← Option.some.inj r]
              exact w2.r.n
          refine ⟨(nI l, a, b), (nI l', σ'), ?_, ?_, l, a, b, l', σ', rfl, rfl, hr⟩
          · show f_X11_nearest_s27 χ (nI k) (nI l) a b (nI (k + 1 + (B.1 - (k + 1)))) = _
            unfold f_X11_nearest_s27
            simp (disch := omega) only [h.b.n, c_leT]
          · show f_X12_nearest_s23 σ' (nI k) (nI l') (nI (k + 1 + (B.1 - (k + 1)))) = _
            unfold f_X12_nearest_s23
            simp (disch := omega) only [hn, c_leT])
      have hn3 : cF σ' 300 3 = nI B.1 := hn2
      show ∃ s' t', f_X11_nearest_s9 χ (nI l) a b (nI k) = some (.inl s') ∧ f_X12_nearest_s11 σ' (nI l') (nI k) = some (.inl t') ∧ _
      unfold f_X11_nearest_s9 f_X12_nearest_s11
      simp (disch := omega) only [h.b.n, hn3, li_1, c_leF, nI_add]
      rw [bi_nd e1, bi_nd e2]
      exact ⟨_, _, rfl, rfl, l2, a2, b2, l2', σ2, rfl, rfl, hr2⟩)
    (fun s u hJ => by
      obtain ⟨l, a, b, l', σ', rfl, rfl, hr⟩ := hJ
      have hn : cF σ' 300 3 = nI B.1 := by
        rcases hr with ⟨-, -, q⟩ | ⟨-, -, σ'', q, r⟩
        · exact q.r.n
        · obtain ⟨c1, d1, f1, f2, w1⟩ := rl_ad q (by omega) a.toInt64
          obtain ⟨c2, d2, f3, f4, w2⟩ := rl_ad w1 (by omega) b.toInt64
          rw [bi_nd f2, f4] at r
          rw [← Option.some.inj r]
          exact w2.r.n
      refine ⟨(nI l, a, b), (nI l', σ'), ?_, ?_, l, a, b, l', σ', rfl, rfl, hr⟩
      · show f_X11_nearest_s9 χ (nI l) a b (nI B.1) = _
        unfold f_X11_nearest_s9
        simp (disch := omega) only [h.b.n, c_leT]
      · show f_X12_nearest_s11 σ' (nI l') (nI B.1) = _
        unfold f_X12_nearest_s11
        simp (disch := omega) only [hn, c_leT])
  rw [bi_nd e1, bi_nd e2]
  rcases hr with ⟨rfl, rfl, hr⟩ | ⟨hl, rfl, σ'', hr, hq⟩
  · rw [if_neg (show ¬ nI 5 ≤ (4 : Int32) by decide), if_pos (show nI 1000000 = (1000000 : Int32) from rfl)]
    exact ⟨_, _, _, rfl, rfl, hr.rel⟩
  · obtain ⟨c1, d1, f1, f2, w1⟩ := rl_ad hr (by omega) a.toInt64
    obtain ⟨c2, d2, f3, f4, w2⟩ := rl_ad w1 (by omega) b.toInt64
    rw [bi_nd f2, f4] at hq
    rw [← Option.some.inj hq]
    rw [if_pos (show nI l' ≤ (4 : Int32) from nI_le (b := 4) hl (by omega)), if_neg (show ¬ nI l' = (1000000 : Int32) from fun q => by have := (nI_eq (b := 1000000) (by omega) (by omega)).mp q; omega)]
    simp only [x9_s0, ob_s, f1, f3]
    exact ⟨_, _, _, rfl, rfl, w2.rel⟩
/-- what a set counts -/
def wtF (B : Bd_) (s k : Nat) : Nat := if s.testBit k = true then 10 - B.2.1 1 k else 0
def wtN (B : Bd_) (s : Nat) : Nat := su (wtF B s) B.1
def dcP (B : Bd_) (s : Nat) : Bool := decide (wtN B (2 ^ B.1 - 1) < 2 * wtN B s)
theorem wt_le (B : Bd_) (s : Nat) (h8 : B.1 ≤ 8) : wtN B s ≤ 80 := Nat.le_trans (su_le _ 10 B.1 (fun i _ => by unfold wtF; split <;> omega)) (by omega)
section COUNCIL
variable {B : Bd_} {T : Nat × (Nat → Nat)} {m : Nat} {C : Lw} {χ σ : St}
theorem Rl_.wt (h : Rl_ B T m C χ σ) {s : Nat} (hs : s < 65536) : f_X2_weight χ 32 (nI s) = some (nI (wtN B s)) ∧ f_X12_counts σ (nI s) = some (nI (wtN B s)) := by
  have h8 := h.W.1
  refine ⟨?_, ?_⟩
  · unfold f_X2_weight
    refine bi_nd (it_for (fun k => (nI (su (wtF B s) k), nI k)) B.1 (by omega) rfl (fun k hk => ?_) ?_)
    · obtain ⟨f1, -, f3⟩ := h.f hk
      show f_X2_weight_s4 32 χ (nI s) (nI (su (wtF B s) k)) (nI k) = _
      unfold f_X2_weight_s4 f_X2_weight_j33_4
      simp (disch := omega) only [h.b.n, f1, li_1, li_10, c_leF, gd_n, nI_clamp, nI_add, ha_n, pk_sub, su_s]
      unfold wtF
      cases s.testBit k <;> rfl
    · show f_X2_weight_s4 32 χ (nI s) (nI (su (wtF B s) B.1)) (nI B.1) = _
      unfold f_X2_weight_s4
      simp (disch := omega) only [h.b.n, c_leT]
      rfl
  · unfold f_X12_counts
    refine bi_nd (it_for (fun k => (nI (su (wtF B s) k), nI k)) B.1 (by omega) rfl (fun k hk => ?_) ?_)
    · obtain ⟨-, f1, f3⟩ := h.f hk
      show f_X12_counts_s4 σ (nI s) (nI (su (wtF B s) k)) (nI k) = _
      unfold f_X12_counts_s4 f_X12_counts_j34_4
      simp (disch := omega) only [h.r.n, f1, li_0, li_1, li_10, c_leF, gd_n, nI_clamp, nI_add, x12_ha, ob_s, pk_sub, su_s]
      unfold wtF
      cases s.testBit k <;> rfl
    · show f_X12_counts_s4 σ (nI s) (nI (su (wtF B s) B.1)) (nI B.1) = _
      unfold f_X12_counts_s4
      simp (disch := omega) only [h.r.n, c_leT]
      rfl
theorem Rl_.dc (h : Rl_ B T m C χ σ) {s : Nat} (hs : s < 65536) : f_X2_decides χ 32 (nI s) = some (nI (dcP B s).toNat) ∧ f_X12_decides σ (nI s) = some (nI (dcP B s).toNat) := by
  have h8 := h.W.1
  have ha := pn_lt h8
  have w1 := h.wt hs
  have w2 := h.wt (s := 2 ^ B.1 - 1) (by omega)
  have b1 := wt_le B s h8
  have b2 := wt_le B (2 ^ B.1 - 1) h8
  have key : (if nI (2 * wtN B s) ≤ nI (wtN B (2 ^ B.1 - 1)) then nI 0 else nI 1) = nI (dcP B s).toNat := by
    unfold dcP
    by_cases q : wtN B (2 ^ B.1 - 1) < 2 * wtN B s
    · rw [decide_eq_true q, c_leF (by omega) (by omega)]; rfl
    · rw [decide_eq_false q, c_leT (by omega) (by omega)]; rfl
  refine ⟨?_, ?_⟩
  · unfold f_X2_decides
    simp (disch := omega) only [li_0, li_1, li_2, w1.1, w2.1, h.al.1, ob_s, pk_mul, key]
  · unfold f_X12_decides
    simp (disch := omega) only [li_0, li_1, li_2, w1.2, w2.2, h.al.2, ob_s, pk_mul, key]
/-- how far a set and the others are apart -/
def apN (B : Bd_) (s : Nat) : Nat := if wtN B (2 ^ B.1 - 1) ≤ 2 * wtN B s then 2 * wtN B s - wtN B (2 ^ B.1 - 1) else wtN B (2 ^ B.1 - 1) - 2 * wtN B s
theorem ap_le (B : Bd_) (s : Nat) (h8 : B.1 ≤ 8) : apN B s ≤ 160 := by
  have b1 := wt_le B s h8
  have b2 := wt_le B (2 ^ B.1 - 1) h8
  unfold apN
  split <;> omega
theorem Rl_.ap (h : Rl_ B T m C χ σ) {s : Nat} (hs : s < 65536) : f_X2_apart χ 32 (nI s) = some (nI (apN B s)) := by
  have h8 := h.W.1
  have ha := pn_lt h8
  have b1 := wt_le B s h8
  have b2 := wt_le B (2 ^ B.1 - 1) h8
  unfold f_X2_apart
  rw [bi_nd (h.wt hs).1, bi_nd h.al.1, bi_nd (h.wt (s := 2 ^ B.1 - 1) (by omega)).1, show (2 : Int32) = nI 2 from rfl, pk_mul, df_ab (by omega) (by omega)]
  rfl
theorem ap_r {B : Bd_} {s : Nat} (h8 : B.1 ≤ 8) : (if (0 : Int32) ≤ nI (wtN B (2 ^ B.1 - 1)) - (2 : Int32) * nI (wtN B s) then nI (wtN B (2 ^ B.1 - 1)) - (2 : Int32) * nI (wtN B s) else 0 - (nI (wtN B (2 ^ B.1 - 1)) - (2 : Int32) * nI (wtN B s))) = nI (apN B s) := by
  have b1 := wt_le B s h8
  have b2 := wt_le B (2 ^ B.1 - 1) h8
  rw [show (2 : Int32) = nI 2 from rfl, pk_mul, df_ab (by omega) (by omega)]
  unfold apN
  congr 1
  by_cases q : 2 * wtN B s ≤ wtN B (2 ^ B.1 - 1)
  · rw [if_pos q]; split <;> omega
  · rw [if_neg q, if_pos (by omega)]
end COUNCIL
theorem y_33 (χ σ : St) (h : Rel_ χ σ) : ∃ (v : Int32) (χ1 : St) (σ1 : St), f_X11_parties χ = some (v, χ1) ∧ f_X12_parties σ = some (v, σ1) ∧ Rel_ χ1 σ1 := by
  obtain ⟨B, T, m, C, h⟩ := h
  have h0 := h.th
  have h8 := h.W.1
  have ha := pn_lt h8
  unfold f_X11_parties f_X12_parties
  generalize sF σ 300 0 (0 : Int32) = σ0 at h0 ⊢
  obtain ⟨x, y, e1, e2, b, hb, rfl, rfl⟩ := it_twn (st1 := fun z : Int32 × Int32 => f_X11_parties_s4 χ z.1 z.2) (st2 := fun z : Int32 × Int32 => f_X12_parties_s18 σ0 (nI (wtN B (2 ^ B.1 - 1))) z.1 z.2) (s := ((0 : Int32), (1 : Int32))) (t := ((0 : Int32), (1 : Int32)))
    (fun k s u => ∃ b, b < 256 ∧ s = (nI b, nI (k + 1)) ∧ u = (nI b, nI (k + 1))) (fun x y => ∃ b, b < 256 ∧ x = nI b ∧ y = nI b) (2 ^ B.1 - 1) (by omega) ⟨0, by omega, rfl, rfl⟩
    (fun k s u hk hI => by
      obtain ⟨b, hb, rfl, rfl⟩ := hI
      have a1 := h0.ap (s := k + 1) (by omega)
      have a2 := h0.ap (s := b) (by omega)
      have w1 := h0.wt (s := k + 1) (by omega)
      have w2 := h0.wt (s := b) (by omega)
      have b1 := ap_le B (k + 1) h8
      have b2 := ap_le B b h8
      show ∃ s' t', f_X11_parties_s4 χ (nI b) (nI (k + 1)) = some (.inl s') ∧ f_X12_parties_s18 σ0 (nI (wtN B (2 ^ B.1 - 1))) (nI b) (nI (k + 1)) = some (.inl t') ∧ _
      unfold f_X11_parties_s4 f_X11_parties_j36_4 f_X12_parties_s18 f_X12_parties_j58_18
      simp (disch := omega) only [h0.al.1, h0.al.2, ob_s, c_ltF, a1, a2, w1.2, w2.2]
      rw [ap_r h8, ap_r h8]
      simp (disch := omega) only [li_1, nI_add, c_leN, nI_sI]
      refine ⟨_, _, rfl, rfl, _, ?_, rfl, rfl⟩
      split <;> omega)
    (fun s u hI => by
      obtain ⟨b, hb, rfl, rfl⟩ := hI
      refine ⟨nI b, nI b, ?_, ?_, b, hb, rfl, rfl⟩
      · show f_X11_parties_s4 χ (nI b) (nI (2 ^ B.1 - 1 + 1)) = _
        unfold f_X11_parties_s4
        simp (disch := omega) only [h0.al.1, ob_s, c_ltT]
      · show f_X12_parties_s18 σ0 (nI (wtN B (2 ^ B.1 - 1))) (nI b) (nI (2 ^ B.1 - 1 + 1)) = _
        unfold f_X12_parties_s18
        simp (disch := omega) only [h0.al.2, ob_s, c_ltT])
  have h2 := rl_st h0
  obtain ⟨χ3, σ3, e3, e4, h3⟩ := rl_ad h2 (by omega) (nI b).toInt64
  obtain ⟨χ4, σ4, e5, e6, h4⟩ := rl_ad h3 (by omega) (nI (wtN B b)).toInt64
  simp only [h0.al.2, ob_s, (h0.wt (s := 2 ^ B.1 - 1) (by omega)).2, bi_nd e1, bi_nd e2, x9_s0, e3, e4, (h3.wt (s := b) (by omega)).1, (h3.wt (s := b) (by omega)).2, e5, e6, (h4.wt (s := b) (by omega)).2, h4.ap (s := b) (by omega), ap_r h8]
  exact ⟨_, _, _, rfl, rfl, h4.rel⟩
theorem y_32 (χ σ : St) (h : Rel_ χ σ) : ∃ (v : Int32) (χ1 : St) (σ1 : St), f_X11_rules χ = some (v, χ1) ∧ f_X12_rules σ = some (v, σ1) ∧ Rel_ χ1 σ1 := by
  obtain ⟨B, T, m, C, h⟩ := h
  have h0 := h.th
  have h8 := h.W.1
  have ha := pn_lt h8
  unfold f_X11_rules f_X12_rules
  generalize sF σ 300 0 (0 : Int32) = σ0 at h0 ⊢
  by_cases hn : B.1 = 0
  · have e2 : iter (fun z : Int32 × Int32 => f_X12_rules_s9 σ0 z.1 z.2) FU ((-1 : Int32), (1 : Int32)) = some (-1) := by
      refine it_for (fun _ => ((-1 : Int32), (1 : Int32))) 0 (by omega) rfl (fun k hk => absurd hk (Nat.not_lt_zero _)) ?_
      show f_X12_rules_s9 σ0 (-1) 1 = _
      unfold f_X12_rules_s9
      rw [bi_nd h0.al.2, hn]
      rfl
    rw [h.b.n, hn, if_pos (show nI 0 = 0 from rfl), bi_nd e2]
    refine ⟨-2, χ, σ0, rfl, ?_, h0.rel⟩
    unfold f_X12_entersFewest
    rw [if_neg (by decide), ob_s, if_pos (by decide)]
  · have hdall : dcP B (2 ^ B.1 - 1) = true := by
      have : 0 < wtN B (2 ^ B.1 - 1) := by
        have key : ∀ n, 0 < n → n ≤ B.1 → 0 < su (wtF B (2 ^ B.1 - 1)) n := by
          intro n h1 h2
          cases n with
          | zero => omega
          | succ n =>
            rw [su_s]
            have : 0 < wtF B (2 ^ B.1 - 1) n := by
              have b1 := h.W.b1 (k := n) (by omega)
              unfold wtF
              rw [Nat.testBit_two_pow_sub_one, if_pos (decide_eq_true (by omega))]
              omega
            omega
        exact key B.1 (by omega) (Nat.le_refl _)
      unfold dcP
      exact decide_eq_true (by omega)
    have hpa := pop_all h8
    have h1p : 1 ≤ 2 ^ B.1 - 1 := by
      have := Nat.pow_le_pow_right (n := 2) (by omega) (show 1 ≤ B.1 by omega)
      omega
    rw [h.b.n, if_neg (show ¬ nI B.1 = 0 from fun q => hn ((nI_eq (b := 0) (by omega) (by omega)).mp q)), bi_nd h.al.1]
    obtain ⟨x, y, e1, e2, b, hb, rfl, rfl⟩ := it_twn (st1 := fun z : Int32 × Int32 => f_X11_rules_s23 χ z.1 z.2) (st2 := fun z : Int32 × Int32 => f_X12_rules_s9 σ0 z.1 z.2) (s := (nI (2 ^ B.1 - 1), (1 : Int32))) (t := ((-1 : Int32), (1 : Int32)))
      (fun k s u => ∃ f b, f < 256 ∧ s = (nI f, nI (k + 1)) ∧ u = (b, nI (k + 1)) ∧ ((k < 2 ^ B.1 - 1 ∧ b = -1 ∧ f = 2 ^ B.1 - 1) ∨ b = nI f)) (fun x y => ∃ b, b < 256 ∧ x = nI b ∧ y = nI b) (2 ^ B.1 - 1) (by omega) ⟨2 ^ B.1 - 1, -1, ha, rfl, rfl, Or.inl ⟨by omega, rfl, rfl⟩⟩
      (fun k s u hk hI => by
        obtain ⟨f, b, hf, rfl, rfl, hr⟩ := hI
        have b1 := pop_le (k + 1)
        have b2 := pop_le f
        have d1 := h0.dc (s := k + 1) (by omega)
        have hpk : k + 1 ≠ 2 ^ B.1 - 1 → pop_ (k + 1) < B.1 := by
          intro hne
          have hlt : k + 1 < 2 ^ B.1 := by omega
          rcases Nat.lt_or_ge (pop_ (k + 1)) B.1 with q | q
          · exact q
          · exfalso
            have hb := bi_of hlt
            rw [hb, pop_bi _ (by omega)] at q
            have hall : ∀ n, n ≤ B.1 → n ≤ cn (k + 1).testBit n → ∀ i, i < n → (k + 1).testBit i = true := by
              intro n
              induction n with
              | zero => intro _ _ i hi; omega
              | succ n ih =>
                intro h1 h2 i hi
                rw [cn_s] at h2
                have hle := cn_le (k + 1).testBit n
                by_cases ht : (k + 1).testBit n = true
                · rw [if_pos ht] at h2
                  by_cases e : i = n
                  · rw [e]; exact ht
                  · exact ih (by omega) (by omega) i (by omega)
                · rw [if_neg ht] at h2; omega
            apply hne
            rw [hb, bi_n1]
            exact bi_ex (fun i hi => hall B.1 (Nat.le_refl _) q i hi)
        show ∃ s' t', f_X11_rules_s23 χ (nI f) (nI (k + 1)) = some (.inl s') ∧ f_X12_rules_s9 σ0 b (nI (k + 1)) = some (.inl t') ∧ _
        unfold f_X11_rules_s23 f_X11_rules_j58_23 f_X12_rules_s9 f_X12_rules_j38_9
        simp (disch := omega) only [h0.al.1, h0.al.2, ob_s, c_ltF, bc_16, li_0, li_1, nI_add, d1.1, d1.2]
        by_cases hd : dcP B (k + 1) = true
        · rw [hd]
          rcases hr with ⟨hk15, rfl, rfl⟩ | rfl
          · by_cases hk2 : k + 1 = 2 ^ B.1 - 1
            · rw [hk2, hpa]
              simp (disch := omega) only [c_leT, Bool.toNat_true, c_eqF, show (-nI 1 : Int32) = -1 from rfl, x12_i0, ob_s]
              exact ⟨_, _, rfl, rfl, _, _, ha, by rw [← hk2], by rw [← hk2], Or.inr rfl⟩
            · have hl := hpk hk2
              rw [hpa]
              simp (disch := omega) only [c_leF, Bool.toNat_true, c_eqF, show (-nI 1 : Int32) = -1 from rfl, x12_i0, ob_s]
              exact ⟨_, _, rfl, rfl, _, _, by omega, rfl, rfl, Or.inr rfl⟩
          · by_cases hle : pop_ f ≤ pop_ (k + 1)
            · simp (disch := omega) only [c_leT, Bool.toNat_true, c_eqF, x12_if, ob_s, decide_eq_false (show ¬ pop_ (k + 1) < pop_ f by omega), Bool.toNat_false, c_eqT, if_true]
              exact ⟨_, _, rfl, rfl, _, _, hf, rfl, rfl, Or.inr rfl⟩
            · simp (disch := omega) only [c_leF, Bool.toNat_true, c_eqF, x12_if, ob_s, decide_eq_true (show pop_ (k + 1) < pop_ f by omega)]
              exact ⟨_, _, rfl, rfl, _, _, by omega, rfl, rfl, Or.inr rfl⟩
        · have hk2 : k + 1 ≠ 2 ^ B.1 - 1 := fun q => hd (by rw [q]; exact hdall)
          rw [Bool.eq_false_iff.mpr hd]
          simp (disch := omega) only [Bool.toNat_false, c_eqT, if_true, ite_self]
          refine ⟨_, _, rfl, rfl, f, b, hf, rfl, rfl, ?_⟩
          rcases hr with ⟨q1, q2, q3⟩ | q
          · exact Or.inl ⟨by omega, q2, q3⟩
          · exact Or.inr q)
      (fun s u hI => by
        obtain ⟨f, b, hf, rfl, rfl, hr⟩ := hI
        rcases hr with ⟨q1, q2, q3⟩ | rfl
        · omega
        · refine ⟨nI f, nI f, ?_, ?_, f, hf, rfl, rfl⟩
          · show f_X11_rules_s23 χ (nI f) (nI (2 ^ B.1 - 1 + 1)) = _
            unfold f_X11_rules_s23
            simp (disch := omega) only [h0.al.1, ob_s, c_ltT]
          · show f_X12_rules_s9 σ0 (nI f) (nI (2 ^ B.1 - 1 + 1)) = _
            unfold f_X12_rules_s9
            simp (disch := omega) only [h0.al.2, ob_s, c_ltT])
    obtain ⟨χ3, σ3, e3, e4, e5, h3⟩ := rl_fw h0 (b := b) (by omega)
    have hbn : ∀ t, t < 4 → bi (yP_ B t) B.1 &&& b < 256 := fun t ht => an_lt hb
    have e6 : f_X10_topicsAlike χ3 32 (nI b) = some (nI (cn (fun t => decide (bi (yP_ B t) B.1 &&& b = 0) || decide (bi (yP_ B t) B.1 &&& b = b)) 4)) := by
      unfold f_X10_topicsAlike
      refine bi_nd (it_for (fun k => (nI (cn (fun t => decide (bi (yP_ B t) B.1 &&& b = 0) || decide (bi (yP_ B t) B.1 &&& b = b)) k), nI k)) 4 (by omega) rfl (fun k hk => ?_) rfl)
      have hx := hbn k hk
      show f_X10_topicsAlike_s4 32 χ3 (nI b) (nI (cn (fun t => decide (bi (yP_ B t) B.1 &&& b = 0) || decide (bi (yP_ B t) B.1 &&& b = b)) k)) (nI k) = _
      unfold f_X10_topicsAlike_s4 f_X10_topicsAlike_j29_4 f_X10_topicsAlike_j32_4
      simp (disch := omega) only [li_0, li_1, li_4, c_leF, (h3.ye hk).1, ob_s, nI_an, nI_add, cn_s, c_eqN]
      by_cases q1 : bi (yP_ B k) B.1 &&& b = 0
      · simp [q1]
      · by_cases q2 : bi (yP_ B k) B.1 &&& b = b
        · simp [q2]
        · simp [q1, q2]
    have e7 : iter (fun z : Int32 × Int32 => f_X12_rules_s60 σ3 (nI b) (nI (pop_ b)) z.1 z.2) FU ((0 : Int32), (0 : Int32)) = some (nI (cn (fun t => decide (bi (yP_ B t) B.1 &&& b = 0) || decide (bi (yP_ B t) B.1 &&& b = b)) 4)) := by
      refine it_for (fun k => (nI (cn (fun t => decide (bi (yP_ B t) B.1 &&& b = 0) || decide (bi (yP_ B t) B.1 &&& b = b)) k), nI k)) 4 (by omega) rfl (fun k hk => ?_) rfl
      have hx := hbn k hk
      show f_X12_rules_s60 σ3 (nI b) (nI (pop_ b)) (nI (cn (fun t => decide (bi (yP_ B t) B.1 &&& b = 0) || decide (bi (yP_ B t) B.1 &&& b = b)) k)) (nI k) = _
      unfold f_X12_rules_s60 f_X12_rules_j92_60 f_X12_rules_j97_60
      simp (disch := omega) only [li_0, li_1, li_4, c_leF, (h3.ye hk).2, ob_s, nI_an, nI_add, fl_0, fl_1, cn_s, c_eqN]
      by_cases q1 : bi (yP_ B k) B.1 &&& b = 0
      · simp [q1]
      · by_cases q2 : bi (yP_ B k) B.1 &&& b = b
        · simp [q2]
        · simp [q1, q2]
    obtain ⟨χ4, σ4, e8, e9, h4⟩ := rl_ad h3 (by omega) (nI (cn (fun t => decide (bi (yP_ B t) B.1 &&& b = 0) || decide (bi (yP_ B t) B.1 &&& b = b)) 4)).toInt64
    rw [bi_nd e1, bi_nd e2]
    simp only [x9_s0, ob_s, e3, e4, e5, e6, bi_nd e7, e8, e9, if_neg (show ¬ nI b < 0 from nI_pos (by omega))]
    exact ⟨_, _, _, rfl, rfl, h4.rel⟩
