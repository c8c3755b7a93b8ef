/-! LAYER 2: oysters. -/
theorem y_2 (χ σ : St) (h : Rel_ χ σ) : ∃ (v : Int32) (χ1 : St) (σ1 : St), f_X11_oysters χ = some (v, χ1) ∧ f_X12_oysters σ = some (v, σ1) ∧ Rel_ χ1 σ1 := by
  obtain ⟨B, T, m0, C, h⟩ := h
  have h0 := h.th
  have h8 := h.W.1
  unfold f_X11_oysters f_X12_oysters f_X12_begins f_X12_oysters_j28
  generalize sF σ 300 0 (0 : Int32) = σ0 at h0 ⊢
  obtain ⟨t1, t2, t3, t4⟩ := h0.tx
  have hw := h0.L.w
  have hLc : (T.1 ≤ 39 ∧ min T.1 39 = T.1) ∨ (39 < T.1 ∧ min T.1 39 = 39) := by omega
  have hfl := x8_fl h0.tx (R := 8 - B.1) (by omega)
  rw [ob_s, t3, h0.b.n, show (8 : Int32) - nI B.1 = nI (8 - B.1) by rw [show (8 : Int32) = nI 8 from rfl, pk_sub (by omega)]]
  dsimp only
  have hL11 : (if (39 : Int32) < nI T.1 then (39 : Int32) else nI T.1) = nI (min T.1 39) := by
    rcases hLc with ⟨q, e⟩ | ⟨q, e⟩
    · rw [e, if_neg (show ¬ (39 : Int32) < nI T.1 from fun x => absurd ((nI_ltI (a := 39) (by omega) (by omega)).mp x) (by omega))]
    · rw [e, if_pos (show (39 : Int32) < nI T.1 from nI_lt (a := 39) q (by omega))]; rfl
  rw [hL11]
  generalize hs0 : sF (sF (sF (sF (sF σ0 300 9 (0 : Int32)) 300 10 (0 : Int32)) 300 12 (0 : Int32)) 300 11 (nI (min T.1 39))) 300 14 (0 : Int32) = s0
  have hA0 : RA_ T.2 (min T.1 39) 0 s0 := by
    rw [← hs0]
    refine ⟨by omega, (rFj (by omega)).trans rFs, ?_, Nat.zero_le _, fun i hi => ⟨(t4 i (by omega)).1, (t4 i (by omega)).2.2⟩⟩
    rw [rFj (by omega), rFj (by omega), rFj (by omega), rFs]
    rfl
  have hs9 : cF s0 300 9 = 0 := by rw [← hs0, rFj (by omega), rFj (by omega), rFj (by omega), rFj (by omega), rFs]
  have hsF : ∀ j, j ≠ 9 → j ≠ 10 → j ≠ 11 → j ≠ 12 → j ≠ 14 → cF s0 300 j = cF σ0 300 j := fun j a b c d e => by rw [← hs0, rFj e, rFj c, rFj d, rFj b, rFj a]
  have hsA : cA s0 = cA σ0 := by rw [← hs0]; rfl
  have hsL : cL s0 = cL σ0 := by rw [← hs0]; rfl
  have h14 : cF s0 300 14 = nI 0 := by rw [← hs0]; exact rFs
  have hcut : ∀ χa : St, cF χa 1 1 = nI T.1 → f_X8_cutTo χa (0 : Int32) = some (1, sF χa 1 1 0) := fun χa ha => by
    unfold f_X8_cutTo
    rw [if_neg (by decide), ha, if_pos (show (0 : Int32) ≤ nI T.1 from nI_le (a := 0) (by omega) (by omega))]
  have hrel : ∀ s, EO_ s0 s → Rl_ B (0, T.2) m0 C (sF χ 1 1 0) s := fun s hE => by
    refine rl_tx h0 ⟨by show 0 ≤ 80; omega, rFs, (hE.2.1 9 (by omega) (by omega)).trans hs9, fun i hi => absurd hi (Nat.not_lt_zero i)⟩ rfl rfl (fun p hp => rFp hp) (fun p _ => rfl) (fun j hj => (hE.2.1 j (by omega) (by omega)).trans (hsF j (by omega) (by omega) (by omega) (by omega) (by omega))) (hE.1.trans hsL) (fun p hp => (hE.2.2 p (by omega)).trans (by rw [hsA]))
  have hn3 : cF s0 300 3 = nI B.1 := (hsF 3 (by omega) (by omega) (by omega) (by omega) (by omega)).trans h0.r.n
  by_cases hT0 : T.1 = 0
  · rcases hfl with ⟨p, p1, -⟩ | ⟨-, hf⟩
    · exact absurd p1 (by omega)
    rw [if_pos (by omega), if_pos (Or.inl hT0)] at hf
    have hL0 : min T.1 39 = 0 := by omega
    have e1 : iter (fun z : Int32 × Int32 × St => f_X11_oysters_s40 z.2.2 z.1 z.2.1) FU ((0 : Int32), (0 : Int32), χ) = some (0, χ) := by
      have : f_X11_oysters_s40 χ (0 : Int32) (0 : Int32) = some (.inr (0, χ)) := by
        unfold f_X11_oysters_s40
        rw [t2, hT0, if_pos (by decide)]
      show iter (fun z : Int32 × Int32 × St => f_X11_oysters_s40 z.2.2 z.1 z.2.1) (4095 + 1) ((0 : Int32), (0 : Int32), χ) = _
      rw [it_x 4095 this]
    have e2 : iter (fun z : Int32 × Int32 × St => f_X12_oysters_s29 z.2.2 (nI T.1) z.1 z.2.1) FU ((1 : Int32), (0 : Int32), s0) = some (1, s0) := by
      have : f_X12_oysters_s29 s0 (nI T.1) (1 : Int32) (0 : Int32) = some (.inr (1, s0)) := by
        unfold f_X12_oysters_s29
        rw [if_pos rfl]
      show iter (fun z : Int32 × Int32 × St => f_X12_oysters_s29 z.2.2 (nI T.1) z.1 z.2.1) (4095 + 1) ((1 : Int32), (0 : Int32), s0) = _
      rw [it_x 4095 this]
    have e3 := x12_fb (v := 1) (p := 0) t1 hA0.2.2.1 hA0.2.1 (by omega) (Or.inl ⟨rfl, by omega⟩)
    rw [if_pos ⟨rfl, by omega⟩, if_pos (by omega)] at e3
    have e4 : iter (fun z : Int32 × St => f_X12_oysters_s81 z.2 z.1) FU ((0 : Int32), s0) = some s0 := by
      have : f_X12_oysters_s81 s0 (0 : Int32) = some (.inr s0) := by
        unfold f_X12_oysters_s81
        rw [h14, if_pos (by decide)]
      show iter (fun z : Int32 × St => f_X12_oysters_s81 z.2 z.1) (4095 + 1) ((0 : Int32), s0) = _
      rw [it_x 4095 this]
    rw [bi_nd hf, if_pos rfl, bi_nd e1, bi_nd (hcut χ t2), if_pos (show nI T.1 ≤ 0 by rw [hT0]; decide), bi_nd e2, bi_nd (show f_X12_faultOf s0 (nI T.1) (39 : Int32) (1 : Int32) = _ from e3), if_pos (show (0 : Int32) ≤ 0 by decide), bi_nd e4]
    dsimp only
    unfold f_X12_oysters_j183 f_X12_oysters_j203
    rw [if_pos (show (0 : Int32) ≤ 0 by decide), h14, if_pos (show nI 0 ≤ 0 by decide), show cF (sF s0 300 21 (cF s0 300 21)) 300 14 = nI 0 from (rFj (by omega)).trans h14, if_pos (show nI 0 ≤ 0 by decide), bi_nd (show f_X12_flag (0 : Int32) = some 0 from rfl)]
    have hsr : SR s0 (sF (sF s0 300 21 (cF s0 300 21)) 300 4 (cF (sF s0 300 21 (cF s0 300 21)) 300 4 + 0)) := by
      refine ⟨⟨fun j hj => ?_, fun _ _ => rfl⟩, (rFj (by omega)).trans (rFj (by omega)), rfl⟩
      by_cases q4 : j = 4
      · rw [q4, rFs, rFj (by omega), Int32.add_zero]
      · rw [rFj q4]
        by_cases q21 : j = 21
        · rw [q21, rFs]
        · rw [rFj q21]
    exact ⟨0, sF χ 1 1 0, _, rfl, by rw [rFj (by omega), rFj (by omega), h14]; rfl, ((hrel s0 (EO_.rf s0)).sc (SC_.rf _) hsr).rel⟩
  · rw [if_neg (show ¬ nI T.1 ≤ (0 : Int32) from nI_ge (a := 0) (by omega) (by omega))]
    obtain ⟨x, e1, hE, hx⟩ := x12_rl (y1 := nI T.1) hA0 (by omega) (by omega) hn3 h8 h14
    obtain ⟨v, t⟩ := x
    dsimp only at hE hx
    rw [bi_nd e1]
    dsimp only
    have h11 : cF t 300 11 = nI (min T.1 39) := (hE.2.1 11 (by omega) (by omega)).trans hA0.2.1
    have bad : ∀ p, p < 100 → f_X8_faultAsLines χ (nI (8 - B.1)) = some (nI p) → f_X12_faultOf t (nI T.1) (39 : Int32) v = some (-1 - nI p) → ∃ (v' : Int32) (χ1 : St) (σ1 : St), ((f_X8_faultAsLines χ (nI (8 - B.1))).bind fun q1 => if q1 = (-1 : Int32) then (iter (fun z : Int32 × Int32 × St => f_X11_oysters_s40 z.2.2 z.1 z.2.1) FU ((0 : Int32), (0 : Int32), χ)).bind fun z13 => (f_X8_cutTo z13.2 (0 : Int32)).bind fun q16 => if z13.1 ≤ 0 then some (z13.1, q16.2) else (f_X6_clear q16.2).bind fun q18 => some (z13.1, q18) else (f_X8_cutTo χ (0 : Int32)).bind fun q20 => some (((-1 : Int32) - q1), q20.2)) = some (v', χ1) ∧ ((f_X12_faultOf t (nI T.1) (39 : Int32) v).bind fun q10 => if 0 ≤ q10 then (iter (fun z : Int32 × St => f_X12_oysters_s81 z.2 z.1) FU ((0 : Int32), t)).bind fun z18 => f_X12_oysters_j183 z18 (if (cF z18 300 14) ≤ 0 then (cF z18 300 21) else (0 : Int32)) else some (q10, t)) = some (v', σ1) ∧ Rel_ χ1 σ1 := fun p hp k1 k2 => by
      rw [bi_nd k1, bi_nd k2, if_neg (m1_m p hp), if_neg (m1_n p hp), bi_nd (hcut χ t2)]
      exact ⟨_, _, _, rfl, rfl, (hrel t hE).rel⟩
    rcases hfl with ⟨p, p1, p2, p3, hf⟩ | ⟨p2, hf⟩
    · rcases hx with ⟨q, -, -, -, x4, -⟩ | ⟨p', x1, x2, x3, x4⟩
      · exact absurd (x4 p p1) (by rw [p3]; decide)
      · have ep : p' = p := by
          rcases Nat.lt_trichotomy p' p with c | c | c
          · rcases x4 with ⟨c1, -⟩ | ⟨c1, c2, -⟩
            · omega
            · exact absurd (p2 p' c) (by rw [c2]; decide)
          · exact c
          · exact absurd (x3 p c) (by rw [p3]; decide)
        subst ep
        rcases x4 with ⟨c1, -⟩ | ⟨c1, c2, vv, c3, rfl⟩
        · omega
        · have hfa := x12_fb t1 x2 h11 c3 (Or.inr (Or.inr p1))
          rw [if_neg (by omega)] at hfa
          exact bad p' (by omega) hf hfa
    · rcases hx with ⟨q, x1, x2, rfl, x4, x5, x6, x7⟩ | ⟨p', x1, x2, x3, x4⟩
      · have hfa := x12_fb (v := 1) t1 x5 h11 (by omega) (Or.inl ⟨rfl, rfl⟩)
        rw [if_pos ⟨rfl, rfl⟩] at hfa
        by_cases c39 : T.1 ≤ 39
        · rw [if_pos c39] at hfa hf
          rw [if_pos (Or.inr (by omega))] at hf
          obtain ⟨χ', e3, hb', hF⟩ := oy_1 (w := (cW χ).1 + 4) (q := q) (by omega) h0.tx h0.b (by omega) (by omega) (fun i hi => x4 i (by omega))
          have hrt := hrel t hE
          obtain ⟨σ', e4, hr', k1, k2, k3⟩ := oy_2 (m := q + 1) (f := T.2) hrt.r (by omega) x6 x7
          have g14 : cF σ' 300 14 = nI (q + 1) := (k2 14 (by omega)).trans x6
          rw [bi_nd hf, if_pos rfl, bi_nd e3, bi_nd (show f_X12_faultOf t (nI T.1) (39 : Int32) (nI 1) = _ from hfa), if_pos (show (0 : Int32) ≤ 0 by decide), bi_nd e4]
          dsimp only
          rw [bi_nd (hcut χ' (by rw [hF.2.2.1 1 (by omega)]; exact t2)), if_neg (show ¬ nI (q + 1) ≤ (0 : Int32) from nI_ge (a := 0) (by omega) (by omega))]
          unfold f_X6_clear f_X12_oysters_j183 f_X12_oysters_j203
          rw [ob_s, g14, if_neg (show ¬ nI (q + 1) ≤ (0 : Int32) from nI_ge (a := 0) (by omega) (by omega)), show cF (sF σ' 300 21 (0 : Int32)) 300 14 = nI (q + 1) from (rFj (by omega)).trans g14, if_neg (show ¬ nI (q + 1) ≤ (0 : Int32) from nI_ge (a := 0) (by omega) (by omega)), bi_nd (show f_X12_flag (1 : Int32) = some 1 from rfl)]
          refine ⟨_, _, _, rfl, by rw [rFj (by omega), rFj (by omega), g14], Rl_.rel (rl_oy (B' := ad_B B T.2 (q + 1)) (T' := (0, T.2)) (m' := m0) h0 (show B.1 < B.1 + (q + 1) by omega) (wb_ad h0.W (by omega) (fun i hi => ?_)) (hb'.cg ((rFp (by omega)).trans (rFp (by omega))) (fun _ _ _ => rfl)) (hr'.cg ((rFj (by omega)).trans (rFj (by omega))) rfl rfl) ?_ ?_ ?_ rFs ?_ ?_ hF.2.1 (fun p hp => ?_) (fun p hp => hF.2.2.2 p (by omega) (by omega)) (fun j hj => ?_) (fun p hp => ?_))⟩
          · have c1 := x4 (5 * i + 1) (by omega)
            have c2 := x4 (5 * i + 2) (by omega)
            have c3 := x4 (5 * i + 3) (by omega)
            rw [cs_1] at c1
            rw [cs_2] at c2
            rw [cs_3, c2, Bool.and_eq_true] at c3
            have d1 : 48 ≤ T.2 (5 * i + 1) ∧ T.2 (5 * i + 1) ≤ 57 := of_decide_eq_true c1
            have d2 : lv_ T.2 (5 * i) < 16 := by
              have := c3.2
              rw [Bool.not_true, Bool.false_or] at this
              exact of_decide_eq_true this
            omega
          · exact ⟨by show 0 ≤ 80; omega, by rw [rFp (by omega), rFs]; rfl, by rw [rFj (by omega), rFj (by omega), k2 9 (by omega)]; exact hrt.tx.2.2.1, fun i hi => absurd hi (Nat.not_lt_zero i)⟩
          · exact hrt.O.cg (by rw [rFp (by omega), rFp (by omega), rFp (by omega)]; exact hF.2.2.1 3 (by omega)) (by show cL χ' 4 = cL χ 4; rw [hF.1]) (by rw [rFj (by omega), rFj (by omega)]; exact k2 1 (by omega)) (by show cL σ' 302 = cL t 302; rw [k1])
          · rw [rFj (by omega), rFp (by omega), hF.2.2.1 5 (by omega)]
          · rw [rFj (by omega), rFs]; rfl
          · rw [rFs, rFj (by omega), k2 4 (by omega), hE.2.1 4 (by omega) (by omega), hsF 4 (by omega) (by omega) (by omega) (by omega) (by omega)]
          · rw [rFp (by omega), rFp (by omega)]; exact hF.2.2.1 p (by omega)
          · rw [rFj (by omega), rFj (by omega), k2 j (by omega), hE.2.1 j (by omega) (by omega), hsF j (by omega) (by omega) (by omega) (by omega) (by omega)]
          · rw [rAF, rAF, k3 p (by omega) (by omega), hE.2.2 p (by omega), hsA]
        · rw [if_neg c39] at hfa hf
          exact bad 39 (by omega) hf hfa
      · rcases x4 with ⟨c1, c2, rfl⟩ | ⟨c1, c2, -⟩
        · have hfa := x12_fb (v := 0) t1 x2 h11 (by omega) (Or.inr (Or.inl ⟨rfl, by omega⟩))
          rw [if_neg (by omega)] at hfa
          by_cases c39 : T.1 ≤ 39
          · have ep : p' = T.1 := by omega
            rw [if_pos c39, if_neg (by omega)] at hf
            rw [ep] at hfa
            exact bad T.1 (by omega) hf hfa
          · omega
        · exact absurd (p2 p' c1) (by rw [c2]; decide)
