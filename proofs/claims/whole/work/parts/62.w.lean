/-! LAYER 2: season. -/
theorem m1_n : ∀ p, p < 100 → ¬ (0 : Int32) ≤ (-1 : Int32) - nI p := by decide +kernel
theorem m1_m : ∀ p, p < 100 → ¬ nI p = (-1 : Int32) := by decide +kernel
theorem x12_fa {s : St} {n p : Nat} {b : Bool} (hn : n ≤ 80) (h10 : cF s 300 10 = nI p) (h11 : cF s 300 11 = nI (min n 60)) (hb : b = true → p = min n 60) (hp : p ≤ min n 60) : f_X12_faultOf s (nI n) (60 : Int32) (nI b.toNat) = some (if b = true then (if n ≤ 60 then 0 else -1 - nI 60) else -1 - nI p) := by
  unfold f_X12_faultOf f_X12_faultOf_j20 f_X12_faultOf_j40 f_X12_faultOf_j44
  rw [h10, h11]
  cases b with
  | true =>
    rw [hb rfl, if_neg (show ¬ nI (true).toNat = 0 by decide), if_pos rfl, if_pos rfl]
    by_cases c : n ≤ 60
    · rw [if_pos (show nI n ≤ (60 : Int32) from nI_le (b := 60) c (by omega)), if_neg (by decide), if_pos c]
    · rw [if_neg (show ¬ nI n ≤ (60 : Int32) from nI_ge (a := 60) (by omega) (by omega)), if_neg (by decide), if_neg c]; rfl
  | false =>
    rw [if_pos (show nI (false).toNat = 0 from rfl), if_neg (show ¬ false = true by decide), if_pos (show (0 : Int32) = 0 from rfl)]
    by_cases c : n ≤ 60
    · rw [if_pos (show nI n ≤ (60 : Int32) from nI_le (b := 60) c (by omega))]
    · rw [if_neg (show ¬ nI n ≤ (60 : Int32) from nI_ge (a := 60) (by omega) (by omega))]
      by_cases d : p < 60
      · rw [if_pos (show nI p < (60 : Int32) from nI_lt (b := 60) d (by omega))]
        rfl
      · have e : p = 60 := by omega
        rw [e]; first | rfl | (rw [if_neg (by decide)]; rfl) | (rw [if_pos rfl, if_neg (by decide)]; rfl)
theorem cF_1 {χ χ' : St} {p j : Nat} {x : Int32} (h : cF χ' p = cF χ p) : cF (sF χ' p j x) p = cF (sF χ p j x) p := by
  funext k
  by_cases e : k = j
  · rw [e, rFs, rFs]
  · rw [rFj e, rFj e, h]
theorem fc_s1 {w : Nat} {χ χ' : St} (h : FC_ 32 w χ χ') : FC_ 32 w (sF χ 1 1 0) (sF χ' 1 1 0) := by
  refine ⟨h.1, h.2.1, fun p hp => ?_, h.2.2.2⟩
  by_cases e : p = 1
  · rw [e]; exact cF_1 (h.2.2.1 1 (by omega))
  · rw [rFp e, rFp e]; exact h.2.2.1 p hp
/-- two numbers told anew, on both sides -/
theorem ad_2 (χ σ : St) (a : Int64) : ∃ x y, f_X9_add (sF χ 3 1 0) a = some x ∧ f_X12_enters (sF σ 300 1 0) a = some y ∧ cW x = cW χ ∧ (∀ p, p ≠ 3 → cF x p = cF χ p) ∧ cA x = cA χ ∧ (∀ j, j ≠ 1 → cF y 300 j = cF σ 300 j) ∧ cA y = cA σ ∧ ∀ b : Int64, ∃ x2 y2, f_X9_add x b = some x2 ∧ f_X12_enters y b = some y2 ∧ cW x2 = cW χ ∧ (∀ p, p ≠ 3 → cF x2 p = cF χ p) ∧ cA x2 = cA χ ∧ (∀ j, j ≠ 1 → cF y2 300 j = cF σ 300 j) ∧ cA y2 = cA σ ∧ RO 2 x2 y2 := by
  have e1 := x9_add (χ := sF χ 3 1 0) (m := 0) (a := a) rFs (by omega)
  have e2 := x12_ent (σ := sF σ 300 1 0) (m := 0) (a := a) rFs (by omega)
  refine ⟨_, _, e1, e2, rfl, fun p hp => ?_, rfl, fun j hj => ?_, rfl, fun b => ?_⟩
  · rw [rFp hp, rFL, rFp hp]
  · rw [rFj hj, rFL, rFj hj]
  have e3 := x9_add (χ := sF (sL (sF χ 3 1 0) 4 0 a) 3 1 (nI (0 + 1))) (m := 1) (a := b) rFs (by omega)
  have e4 := x12_ent (σ := sF (sL (sF σ 300 1 0) 302 0 a) 300 1 (nI (0 + 1))) (m := 1) (a := b) rFs (by omega)
  refine ⟨_, _, e3, e4, rfl, fun p hp => ?_, rfl, fun j hj => ?_, rfl, by omega, rFs, rFs, fun i hi => ?_⟩
  · rw [rFp hp, rFL, rFp hp, rFL, rFp hp]
  · rw [rFj hj, rFL, rFj hj, rFL, rFj hj]
  · rw [rLF, rLF]
    have hc : i = 0 ∨ i = 1 := by omega
    rcases hc with rfl | rfl
    · rw [rLj (by omega), rLj (by omega), rLF, rLF, rLs, rLs]
    · rw [rLs, rLs]
theorem y_11 (χ σ : St) (h : Rel_ χ σ) : ∃ (v : Int32) (χ1 : St) (σ1 : St), f_X11_season χ = some (v, χ1) ∧ f_X12_season σ = some (v, σ1) ∧ Rel_ χ1 σ1 := by
  obtain ⟨B, T, m0, C, h⟩ := h
  have h0 := h.th
  have h8 := h.W.1
  unfold f_X11_season f_X12_season f_X12_begins
  generalize sF σ 300 0 (0 : Int32) = σ0 at h0 ⊢
  obtain ⟨t1, t2, t3, t4⟩ := h0.tx
  have hw := h0.L.w
  have hLc : (T.1 ≤ 60 ∧ min T.1 60 = T.1) ∨ (60 < T.1 ∧ min T.1 60 = 60) := by omega
  obtain ⟨m, hm0, hg, hm⟩ := ip_ex T.2 (min T.1 60)
  have hfs := x8_fs h0.tx hg hm
  rw [ob_s, t3]
  dsimp only
  have hL11 : (if (60 : Int32) < nI T.1 then (60 : Int32) else nI T.1) = nI (min T.1 60) := by
    rcases hLc with ⟨q, e⟩ | ⟨q, e⟩
    · rw [e, if_neg (show ¬ (60 : Int32) < nI T.1 from fun x => absurd ((nI_ltI (a := 60) (by omega) (by omega)).mp x) (by omega))]
    · rw [e, if_pos (show (60 : Int32) < nI T.1 from nI_lt (a := 60) q (by omega))]; rfl
  rw [hL11]
  generalize hs0 : sF (sF (sF (sF (sF σ0 300 9 (0 : Int32)) 300 10 (0 : Int32)) 300 12 (0 : Int32)) 300 11 (nI (min T.1 60))) 300 26 (0 : Int32) = s0
  have hA0 : RA_ T.2 (min T.1 60) 0 s0 := by
    rw [← hs0]
    refine ⟨by omega, (rFj (by omega)).trans rFs, ?_, Nat.zero_le _, fun i hi => ⟨(t4 i (by omega)).1, (t4 i (by omega)).2.2⟩⟩
    rw [rFj (by omega), rFj (by omega), rFj (by omega), rFs]
    rfl
  have hs9 : cF s0 300 9 = 0 := by rw [← hs0, rFj (by omega), rFj (by omega), rFj (by omega), rFj (by omega), rFs]
  have hsF : ∀ j, j ≠ 9 → j ≠ 10 → j ≠ 11 → j ≠ 12 → j ≠ 26 → cF s0 300 j = cF σ0 300 j := fun j a b c d e => by rw [← hs0, rFj e, rFj c, rFj d, rFj b, rFj a]
  have hsA : cA s0 = cA σ0 := by rw [← hs0]; rfl
  have hsL : cL s0 = cL σ0 := by rw [← hs0]; rfl
  obtain ⟨x, e1, hE, hx⟩ := x12_rs (y1 := nI T.1) hA0 (by omega) (by rw [← hs0]; exact rFs) hm0 hg hm
  obtain ⟨v, σr⟩ := x
  dsimp only at hE hx
  rw [bi_nd e1]
  have h11 : cF σr 300 11 = nI (min T.1 60) := (hE.2.1 11 (by omega) (by omega)).trans hA0.2.1
  have hcut : f_X8_cutTo χ (0 : Int32) = some (1, sF χ 1 1 0) := by
    unfold f_X8_cutTo
    rw [if_neg (by decide), t2, if_pos (show (0 : Int32) ≤ nI T.1 from nI_le (a := 0) (by omega) (by omega))]
  -- the relation with the text cut
  have cutR : ∀ χa, Rl_ B T m0 C χa σ0 → Rl_ B (0, T.2) m0 C (sF χa 1 1 0) σr := fun χa ha => by
    refine rl_tx ha ⟨by show 0 ≤ 80; omega, rFs, (hE.2.1 9 (by omega) (by omega)).trans hs9, fun i hi => absurd hi (Nat.not_lt_zero i)⟩ rfl rfl (fun p hp => rFp hp) (fun p _ => rfl) (fun j hj => (hE.2.1 j (by omega) (by omega)).trans (hsF j (by omega) (by omega) (by omega) (by omega) (by omega))) (hE.1.trans hsL) (fun p hp => (hE.2.2 p (by omega) (by omega) (by omega)).trans (by rw [hsA]))
  unfold f_X12_season_j42
  dsimp only
  -- a fault
  have bad : ∀ p, p < 100 → f_X8_faultAsSeason χ = some (nI p) → f_X12_faultOf σr (nI T.1) (60 : Int32) v = some (-1 - nI p) → ∃ (v' : Int32) (χ1 : St) (σ1 : St), ((f_X8_faultAsSeason χ).bind fun q1 => if q1 = (-1 : Int32) then (f_X0_copyFrom χ 40 32).bind fun q3 => (iter (fun z : Int32 × Int32 × Int32 × St => f_X11_season_s44 z.2.2.2 z.1 z.2.1 z.2.2.1) FU ((0 : Int32), (0 : Int32), (0 : Int32), q3)).bind fun z11 => f_X11_season_j99 z11.2.2 z11.1 z11.2.1 else (f_X8_cutTo χ (0 : Int32)).bind fun q28 => some (((-1 : Int32) - q1), q28.2)) = some (v', χ1) ∧ ((f_X12_faultOf σr (nI T.1) (60 : Int32) v).bind fun q8 => if 0 ≤ q8 then (f_X12_putsBy σr).bind fun q10 => (iter (fun z : Int32 × St => f_X12_season_s64 z.2 z.1) FU ((0 : Int32), q10)).bind fun z14 => f_X12_season_j88 z14.2 z14.1 else some (q8, σr)) = some (v', σ1) ∧ Rel_ χ1 σ1 := fun p hp k1 k2 => by
    rw [bi_nd k1, bi_nd k2, if_neg (m1_m p hp), if_neg (m1_n p hp), bi_nd hcut]
    exact ⟨_, _, _, rfl, rfl, (cutR χ h0).rel⟩
  rcases hx with ⟨x1, rfl, x3, x4, x5⟩ | ⟨x1, rfl, x3⟩
  · have hfa := x12_fa (b := true) t1 x3 h11 (fun _ => rfl) (Nat.le_refl _)
    rw [if_pos rfl] at hfa
    rw [if_pos x1] at hfs
    by_cases c60 : T.1 ≤ 60
    · rw [if_pos c60] at hfa hfs
      have eL : min T.1 60 = T.1 := by omega
      rw [eL] at x1 hg hm0
      rw [bi_nd hfs, bi_nd (show f_X12_faultOf σr (nI T.1) (60 : Int32) (nI 1) = some 0 from hfa), if_pos rfl, if_pos (by decide)]
      obtain ⟨χ1, e2, hf1, hb1⟩ := x0_cb (b := 40) (b1 := 32) (w := (cW χ).1 + 4) (by omega) h0.W h0.b
      have h1 := h0.sc (sc_FC h0.L rfl hf1) (SR.rf _)
      have h2 := cutR χ1 h1
      obtain ⟨pl, u, p1, p2, p3, p4, p5, -⟩ := h2.U
      obtain ⟨s1, e3, k1, k2, k3, k4, k5, k6⟩ := x12_pb p5 p2
      obtain ⟨pl', u', s1', q1, q2, q3, q4, q5, e3', h3, hro⟩ := rl_pb h2
      have es : s1' = s1 := Option.some.inj (e3'.symm.trans e3)
      subst es
      have hw1 := h1.L.w
      obtain ⟨i, B', χ2, s2, c1, c2, c3, c4, c5, c6, c7, c8, c9⟩ := se_lp h1.W h1.b h3.r (by omega) h1.L.i1 h1.L.2.1 h1.L.2.2.1 h3.L.2.2.2 h1.tx x1 c60 hm0 hg (by rw [k1]; exact x4) (fun j hj => by
        obtain ⟨i1, i2, i3⟩ := x5 j hj
        exact ⟨by rw [k4 323 (by omega)]; exact i1, by rw [k4 324 (by omega)]; exact i2, fun x => by rw [k4 325 (by omega)]; exact i3 x⟩)
      rw [bi_nd e2, bi_nd c2, bi_nd e3, bi_nd c3]
      unfold f_X11_season_j99 f_X11_season_j123 f_X11_season_j143 f_X12_season_j88 f_X12_season_j108
      dsimp only
      have hcut2 : f_X8_cutTo χ2 (0 : Int32) = some (1, sF χ2 1 1 0) := by
        unfold f_X8_cutTo
        rw [if_neg (by decide), c6.2.2.1 1 (by omega), h1.tx.2.1, if_pos (show (0 : Int32) ≤ nI T.1 from nI_le (a := 0) (by omega) (by omega))]
      rw [bi_nd hcut2]
      dsimp only
      have h26 : cF s2 300 26 = nI m := by rw [c7.1, k1]; exact x4
      have hfl : (if (if i < m then nI 1 else nI 0) = (0 : Int32) then (0 : Int64) else (1 : Int64)) = (if i < m then (1 : Int64) else 0) := by
        by_cases c : i < m
        · rw [if_pos c, if_pos c, if_neg (by decide)]
        · rw [if_neg c, if_neg c, if_pos (by decide)]
      have hfl2 : (if nI m ≤ nI i then (0 : Int32) else (1 : Int32)) = (if i < m then (1 : Int32) else 0) := by
        by_cases c : i < m
        · rw [if_neg (nI_ge c (by omega)), if_pos c]
        · rw [if_pos (nI_le (by omega) (by omega)), if_neg c]
      have hfl3 : f_X12_flag (if i < m then (1 : Int32) else 0) = some (if i < m then (1 : Int32) else 0) := by split <;> rfl
      have hfl4 : (if i < m then (1 : Int32) else 0).toInt64 = (if i < m then (1 : Int64) else 0) := by split <;> rfl
      have hB : Rl_ B' (0, T.2) m0 C (sF χ2 1 1 0) s2 := rl_bd h3 c4 c5 (fc_s1 c6) c7 (c8.cg (rFp (by omega)) (fun _ _ _ => rfl)) c9
      rw [hfl, show cF (sF s2 300 1 (0 : Int32)) 300 26 = nI m from (rFj (by omega)).trans h26, hfl2, bi_nd hfl3, hfl4]
      have hW8 : B'.1 ≤ 16 := by omega
      by_cases ci : i = 0
      · subst ci
        rw [if_pos (show nI 0 ≤ 0 by decide), bi_nd (x9_s0 _)]
        obtain ⟨x6, y6, e6, e7, h6⟩ := rl_ad (rl_st hB) (by omega) (if 0 < m then (1 : Int64) else 0)
        rw [bi_nd e6, bi_nd e7, bi_nd h6.op.1, bi_nd h6.op.2, bi_nd (bc_bi _ hW8), bi_nd (bc_bi _ hW8)]
        obtain ⟨x7, y7, e8, e9, h7⟩ := rl_ad h6 (by omega) (nI (cn (oP_ B' 0) B'.1)).toInt64
        rw [bi_nd e8, bi_nd e9, if_pos (show nI 0 ≤ 0 by decide)]
        exact ⟨_, _, _, rfl, rfl, h7.rel⟩
      · have z3 : cF (sF χ2 1 1 0) 5 1 = nI pl := by
          rw [rFp (by omega), c6.2.2.1 5 (by omega)]
          rw [rFp (by omega)] at p3
          exact p3
        have z4 : cF (sF χ2 1 1 0) 5 2 = nI u := by
          rw [rFp (by omega), c6.2.2.1 5 (by omega)]
          rw [rFp (by omega)] at p4
          exact p4
        have z40 : BC_ 40 B (sF χ2 1 1 0) := hb1.cg ((rFp (by omega)).trans (c6.2.2.1 40 (by omega))) (fun j _ _ => c6.2.2.2 _ (by omega) (by omega))
        have hpu := x6_pu (b1 := 40) (χ := sF χ2 1 1 0) (Bo := B) (Or.inr rfl) p1 p2 z3 z4 h1.W z40
        obtain ⟨x3', e4, g1, g2, g3, g4, g5, g6, g7⟩ := hpu
        rw [if_neg (show ¬ nI i ≤ (0 : Int32) from nI_ge (a := 0) (by omega) (by omega)), bi_nd e4, bi_nd (x9_s0 _)]
        obtain ⟨x6, y6, e6, e7, w1, w2, w3, w4, w5, h2n⟩ := ad_2 x3' s2 (if i < m then (1 : Int64) else 0)
        have hb6 : BC_ 32 B' x6 := c8.cg ((w2 32 (by omega)).trans ((g5 32 (by omega) (by omega)).trans (rFp (by omega)))) (fun j _ _ => by rw [w3]; exact g6 _ (by omega))
        have hr6 : BR 306 0 B' y6 := c9.cg (w4 3 (by omega)) (by rw [w5]) (by rw [w5])
        rw [bi_nd e6, bi_nd e7, bi_nd (x0_op c5 hb6), bi_nd (x12_op c5 hr6), bi_nd (bc_bi _ hW8), bi_nd (bc_bi _ hW8)]
        obtain ⟨x7, y7, e8, e9, r1, r2, r3, r4, r5, r6⟩ := h2n (nI (cn (oP_ B' 0) B'.1)).toInt64
        rw [bi_nd e8, bi_nd e9, if_neg (show ¬ nI i ≤ (0 : Int32) from nI_ge (a := 0) (by omega) (by omega))]
        have gF : ∀ p, p ≠ 3 → p ≠ 32 → p ≠ 5 → p ≠ 48 + 8 * pl → cF x7 p = cF (sF χ1 1 1 0) p := fun p a b c d => (r2 p a).trans ((g5 p c d).trans ((fc_s1 c6).2.2.1 p b))
        have gA : ∀ p, p ≠ (cW χ1).1 + 4 → (p < 33 ∨ 37 < p) → (p < 49 + 8 * pl ∨ 53 + 8 * pl < p) → cA x7 p = cA (sF χ1 1 1 0) p := fun p a b c => by rw [r3]; exact (g6 p c).trans (c6.2.2.2 p a (by omega))
        have gG : ∀ j, j ≠ 1 → cF y7 300 j = cF s1' 300 j := fun j hj => (r4 j hj).trans (by rw [c7.1])
        have gB : ∀ p, p ≠ 306 → p ≠ 319 → p ≠ 320 → cA y7 p = cA s1' p := fun p a b c => by rw [r5]; exact c7.2.2 p a b c
        have eu : u' = u := by
          have : nI u' = nI u := q5.symm.trans (by rw [k1]; exact p5)
          exact (nI_eq (by omega) (by omega)).mp this
        subst eu
        have hup : RUp B.1 B x7 y7 := by
          refine ru_pp h3.U p3 p4 p1 p2 ?_ ?_ (fun p a b c d => gF p (by omega) (by omega) a b) (fun p a b c => gA p (by omega) (by omega) c) ?_ ((gG 21 (by omega)).trans q5) (gG 3 (by omega)) (gB 305 (by omega) (by omega) (by omega)) (fun i _ => by rw [gB 322 (by omega) (by omega) (by omega)]) ?_
          · rw [r2 5 (by omega)]; exact g3
          · rw [r2 5 (by omega)]; exact g4
          · exact g7.cg (r2 _ (by omega)) (fun j _ _ => by rw [r3])
          · exact hro.cg (gG 3 (by omega)) (gB 305 (by omega) (by omega) (by omega)) (gB 322 (by omega) (by omega) (by omega))
        obtain ⟨s9, e10, h9⟩ := rl_ct (B := B') (T := (0, T.2)) (m := 2) (C := C) (Bo := B) (χ := x7) (σ := y7) (fun s q1 q2 q3 q4 => rl_mk h3 (B' := B') c4 c5 (hb6.cg ((r2 32 (by omega)).trans (w2 32 (by omega)).symm) (fun j _ _ => by rw [r3, w3])) (c9.cg ((q2 3 (by omega)).trans (r4 3 (by omega))) ((q3 305 (by omega)).trans (by rw [r5])) ((q3 306 (by omega)).trans (by rw [r5]))) (r6.cg rfl rfl (q2 1 (by omega)) (by rw [q1])) (by rw [← c4]; exact q4) (r1.trans (g1.trans c6.2.1)) (fun p hp => gF p (by have := h3.L.w; omega) (by have := h3.L.w; omega) (by have := h3.L.w; omega) (by have := h3.L.w; omega)) (fun p hp => gA p (by have : (cW (sF χ1 1 1 0)).1 = (cW χ1).1 := rfl; omega) (by have : (cW (sF χ1 1 1 0)).1 = (cW χ1).1 := rfl; omega) (by have : (cW (sF χ1 1 1 0)).1 = (cW χ1).1 := rfl; omega)) (fun j hj => (q2 j (by omega)).trans (gG j (by omega))) (fun p hp => (q3 p (by omega)).trans (gB p (by omega) (by omega) (by omega)))) (by rw [c4]; exact hup) c4.symm h1.W (nI i)
        rw [bi_nd e10]
        exact ⟨_, _, _, rfl, rfl, h9.rel⟩
    · rw [if_neg c60] at hfa hfs
      exact bad 60 (by omega) hfs hfa
  · rw [if_neg x1] at hfs
    have hq := hm.resolve_left x1
    have hfo : ip T.2 m + (fo T.2 (min T.1 60) (ip T.2 m) - 1) ≤ min T.1 60 := by
      obtain ⟨r, -, ⟨c1, -⟩ | ⟨c1, -⟩⟩ := fs_f h0.tx (Nat.min_le_left _ _) hq.1 hq.2 0
      · omega
      · omega
    have hfa := x12_fa (b := false) t1 x3 h11 (fun x => absurd x (by decide)) hfo
    rw [if_neg (by decide)] at hfa
    exact bad _ (by omega) hfs hfa
