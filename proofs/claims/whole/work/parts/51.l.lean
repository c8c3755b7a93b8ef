/-! LAYER 2: seen, forget, heard, denies, fits, asks. -/
theorem rl_SH {B : Bd_} {T : Nat × (Nat → Nat)} {m : Nat} {C : Lw} {χ χ' σ σ' : St} (h : Rl_ B T m C χ σ) (w1 : cW χ' = cW χ) (w2 : cL χ' = cL χ) (f3 : ∀ p, p ≠ 9 → p ≠ 13 → cF χ' p = cF χ p) (f4 : ∀ p, p < 10 ∨ 15 < p → cA χ' p = cA χ p) (g1 : ∀ j, j ≠ 27 → j ≠ 31 → cF σ' 300 j = cF σ 300 j) (g2 : cL σ' = cL σ) (g3 : ∀ p, p ≠ 328 → p ≠ 329 → p ≠ 332 → p ≠ 333 → cA σ' p = cA σ p) (hS : RS χ' σ') (hH : RH χ' σ') : Rl_ B T m C χ' σ' := by
  have hw := h.L.w
  refine ⟨h.W, h.b.cg (f3 32 (by omega) (by omega)) (fun j _ _ => f4 _ (by omega)), h.r.cg (g1 3 (by omega) (by omega)) (g3 305 (by omega) (by omega) (by omega) (by omega)) (g3 306 (by omega) (by omega) (by omega) (by omega)), h.tx.cg (f3 1 (by omega) (by omega)) (f4 2 (by omega)) (g1 9 (by omega) (by omega)) (g3 308 (by omega) (by omega) (by omega) (by omega)), h.O.cg (f3 3 (by omega) (by omega)) (by rw [w2]) (g1 1 (by omega) (by omega)) (by rw [g2]), ?_, ?_, hS, hH, ?_⟩
  · exact h.U.cg (f3 5 (by omega) (by omega)) (fun p _ _ => f3 p (by omega) (by omega)) (fun p _ _ => f4 p (by omega)) (g1 21 (by omega) (by omega)) (g1 3 (by omega) (by omega)) (g3 305 (by omega) (by omega) (by omega) (by omega)) (g3 322 (by omega) (by omega) (by omega) (by omega))
  · exact h.K.cg (f4 8 (by omega)) (fun p _ _ => f3 p (by omega) (by omega)) (fun p _ _ => f4 p (by omega)) (g1 4 (by omega) (by omega)) (g1 3 (by omega) (by omega)) (g3 305 (by omega) (by omega) (by omega) (by omega)) (g3 338 (by omega) (by omega) (by omega) (by omega)) (g3 339 (by omega) (by omega) (by omega) (by omega)) (g3 340 (by omega) (by omega) (by omega) (by omega))
  · exact h.L.cg w1 (f3 _ (by omega) (by omega)) (f4 _ (by omega)) (g1 17 (by omega) (by omega)) (g3 315 (by omega) (by omega) (by omega) (by omega))
theorem y_34 (χ σ : St) (a1 a2 a3 : Int32) (h : Rel_ χ σ) : ∃ (v : Int32) (χ1 : St) (σ1 : St), f_X11_seen χ a1 a2 a3 = some (v, χ1) ∧ f_X12_seen σ a1 a2 a3 = some (v, σ1) ∧ Rel_ χ1 σ1 := by
  obtain ⟨B, T, m, C, h⟩ := h
  have h0 := h.th
  unfold f_X11_seen f_X12_seen f_X7_hasRoom f_X7_note f_X7_note_j47 f_X7_hasRoom
  generalize sF σ 300 0 (0 : Int32) = σ0 at h0 ⊢
  rcases qu_ca a1 a2 with ⟨q1, q2⟩ | ⟨t, w, ht, hw, rfl, rfl, q1, q2⟩
  · simp only [q1, q2, ob_s, c0_0]
    exact ⟨_, _, _, rfl, rfl, h0.rel⟩
  simp only [q1, q2, ob_s, c1_0]
  rcases in_ca a3 0 8 (by omega) (by omega) with ⟨q3, q4⟩ | ⟨c, -, hc, rfl, q3⟩
  · refine ⟨-1, χ, σ0, ?_, ?_, h0.rel⟩
    · by_cases hz : a3 < 0
      · rw [if_pos hz]
      · rw [if_neg hz, if_pos (show (8 : Int32) < a3 from q4.resolve_left hz)]
    · rw [bi_nd (show f_X12_in a3.toInt64 (0 : Int64) (8 : Int64) = some 0 from q3)]; rfl
  rw [if_neg (show ¬ nI c < 0 from nI_pos (by omega)), if_neg (show ¬ (8 : Int32) < nI c from nI_nlt (a := 8) hc (by omega)), bi_nd (show f_X12_in (nI c).toInt64 (0 : Int64) (8 : Int64) = some 1 from q3), c1_0]
  obtain ⟨s, hs, s1, s2, s3⟩ := h0.S
  by_cases h10 : s = 10
  · subst h10
    simp (disch := omega) only [s1, s2, li_0, li_1, li_10, c_leT, c_eqT, if_true]
    exact ⟨_, _, _, rfl, rfl, h0.rel⟩
  · simp (disch := omega) only [rFA, s1, s2, li_0, li_1, li_10, c_leF, c_eqF, gd_n, nI_clamp, nI_add, pk_mul, rFs, ob_s]
    refine ⟨_, _, _, rfl, rfl, Rl_.rel (B := B) (T := T) (m := m) (C := C) (rl_SH h0 rfl rfl (fun p hp _ => (rFp hp).trans rfl) (fun p hp => ?_) (fun j hj _ => (rFj hj).trans rfl) rfl (fun p h1 h2 _ _ => ?_) ⟨s + 1, by omega, rFs, rFs, fun i hi => ?_⟩ ?_)⟩
    · rw [rAF, rAp (by omega), rAp (by omega), rAp (by omega)]
    · rw [rAF, rAp h2, rAp h1]
    · by_cases e : i = s
      · subst e
        refine ⟨t, w, c, ht, hw, hc, ?_, ?_, ?_, ?_, ?_⟩
        · rw [rAF, rAp (by omega), rAp (by omega), rAs]
        · rw [rAF, rAp (by omega), rAs]
        · rw [rAF, rAs]
        · rw [rAF, rAp (by omega), rAs]
        · rw [rAF, rAs]
      · obtain ⟨t', w', c', k1, k2, k3, k4, k5, k6, k7, k8⟩ := s3 i (by omega)
        refine ⟨t', w', c', k1, k2, k3, ?_, ?_, ?_, ?_, ?_⟩
        · rw [rAF, rAp (by omega), rAp (by omega), rAj e]; exact k4
        · rw [rAF, rAp (by omega), rAj e, rAp (by omega)]; exact k5
        · rw [rAF, rAj e, rAp (by omega), rAp (by omega)]; exact k6
        · rw [rAF, rAp (by omega), rAj e]; exact k7
        · rw [rAF, rAj e, rAp (by omega)]; exact k8
    · refine h0.H.cg ((rFp (by omega)).trans rfl) ?_ ?_ ((rFj (by omega)).trans rfl) ?_ ?_
      · rw [rAF, rAp (by omega), rAp (by omega), rAp (by omega)]
      · rw [rAF, rAp (by omega), rAp (by omega), rAp (by omega)]
      · rw [rAF, rAp (by omega), rAp (by omega)]
      · rw [rAF, rAp (by omega), rAp (by omega)]
theorem y_35 (χ σ : St) (h : Rel_ χ σ) : ∃ (v : Int32) (χ1 : St) (σ1 : St), f_X11_forget χ = some (v, χ1) ∧ f_X12_forget σ = some (v, σ1) ∧ Rel_ χ1 σ1 := by
  obtain ⟨B, T, m, C, h⟩ := h
  have h0 := h.th
  unfold f_X11_forget f_X12_forget f_X7_clear
  generalize sF σ 300 0 (0 : Int32) = σ0 at h0 ⊢
  obtain ⟨s, hs, s1, s2, s3⟩ := h0.S
  rw [ob_s, s1, s2]
  exact ⟨_, _, _, rfl, rfl, Rl_.rel (B := B) (T := T) (m := m) (C := C) (rl_SH h0 rfl rfl (fun p hp _ => rFp hp) (fun p hp => rfl) (fun j hj _ => rFj hj) rfl (fun p _ _ _ _ => rfl) ⟨0, by omega, rFs, rFs, fun i hi => absurd hi (Nat.not_lt_zero _)⟩ (h0.H.cg (rFp (by omega)) rfl rfl (rFj (by omega)) rfl rfl))⟩
theorem y_39 (χ σ : St) (h : Rel_ χ σ) : ∃ (v : Int32) (χ1 : St) (σ1 : St), f_X11_denies χ = some (v, χ1) ∧ f_X12_denies σ = some (v, σ1) ∧ Rel_ χ1 σ1 := by
  obtain ⟨B, T, m, C, h⟩ := h
  have h0 := h.th
  unfold f_X11_denies f_X12_denies f_X4_clear
  generalize sF σ 300 0 (0 : Int32) = σ0 at h0 ⊢
  obtain ⟨s, hs, s1, s2, s3⟩ := h0.H
  rw [ob_s, s1, s2]
  exact ⟨_, _, _, rfl, rfl, Rl_.rel (B := B) (T := T) (m := m) (C := C) (rl_SH h0 rfl rfl (fun p _ hp => rFp hp) (fun p hp => rfl) (fun j _ hj => rFj hj) rfl (fun p _ _ _ _ => rfl) (h0.S.cg (rFp (by omega)) rfl rfl rfl (rFj (by omega)) rfl rfl) ⟨0, by omega, rFs, rFs, fun i hi => absurd hi (Nat.not_lt_zero _)⟩)⟩
def gr_ (t : Nat) : Nat := ([2, 9, 3, 1, 9] : List Nat).getD t 0
theorem gq_ok : ∀ t, t < 5 → ([2, 9, 3, 1, 9] : List Int32).getD t 0 = nI (gr_ t) ∧ f_X12_highest (nI t) = some (nI (gr_ t)) ∧ gr_ t ≤ 9 := by decide +kernel
theorem be_1 {t v : Nat} (ht : t < 5) (hv : v < 2 ^ 31) : f_X4_canBe (nI t) (nI v) = some (nI (decide (v ≤ gr_ t)).toNat) := by
  have g := gq_ok t ht
  unfold f_X4_canBe
  rw [if_neg (nI_pos (by omega)), if_neg (show ¬ (5 : Int32) ≤ nI t from nI_ge (b := 5) ht (by omega)), if_neg (nI_pos hv), gd_n ht (by omega), nI_clamp (by omega), g.1]
  by_cases q : v ≤ gr_ t
  · rw [decide_eq_true q, if_neg (nI_nlt q (by omega))]; rfl
  · rw [decide_eq_false q, if_pos (nI_lt (by omega) hv)]; rfl
theorem y_38 (χ σ : St) (a1 a2 : Int32) (h : Rel_ χ σ) : ∃ (v : Int32) (χ1 : St) (σ1 : St), f_X11_heard χ a1 a2 = some (v, χ1) ∧ f_X12_heard σ a1 a2 = some (v, σ1) ∧ Rel_ χ1 σ1 := by
  obtain ⟨B, T, m, C, h⟩ := h
  have h0 := h.th
  unfold f_X11_heard f_X12_heard f_X4_note f_X4_hasRoom f_X4_note_j37
  generalize sF σ 300 0 (0 : Int32) = σ0 at h0 ⊢
  rcases in_ca a1 0 4 (by omega) (by omega) with ⟨q1, q2⟩ | ⟨t, -, ht, rfl, q1⟩
  · refine ⟨-1, χ, σ0, ?_, ?_, h0.rel⟩
    · have e : f_X4_canBe a1 a2 = some 0 := by
        unfold f_X4_canBe
        by_cases hz : a1 < 0
        · rw [if_pos hz]
        · rw [if_neg hz, if_pos (show (5 : Int32) ≤ a1 from ge_of (n := 4) (m := 5) rfl (by omega) (q2.resolve_left hz))]
      rw [bi_nd e]; rfl
    · rw [bi_nd (show f_X12_in a1.toInt64 (0 : Int64) (4 : Int64) = some 0 from q1)]; rfl
  have g := gq_ok t (by omega)
  rw [bi_nd (show f_X12_in (nI t).toInt64 (0 : Int64) (4 : Int64) = some 1 from q1), c1_0, bi_nd g.2.1, nI_to (show gr_ t < 2 ^ 31 by omega)]
  rcases in_ca a2 0 (gr_ t) (by omega) (by omega) with ⟨q3, q4⟩ | ⟨v, -, hv, rfl, q3⟩
  · refine ⟨-1, χ, σ0, ?_, ?_, h0.rel⟩
    · have e : f_X4_canBe (nI t) a2 = some 0 := by
        unfold f_X4_canBe
        rw [if_neg (nI_pos (by omega)), if_neg (show ¬ (5 : Int32) ≤ nI t from nI_ge (b := 5) (by omega) (by omega)), gd_n (by omega) (by omega), nI_clamp (by omega), g.1]
        by_cases hz : a2 < 0
        · rw [if_pos hz]
        · rw [if_neg hz, if_pos (q4.resolve_left hz)]
      rw [bi_nd e]; rfl
    · rw [bi_nd (show f_X12_in a2.toInt64 (0 : Int64) (lN (gr_ t)) = some 0 from q3)]; rfl
  rw [bi_nd (be_1 (t := t) (v := v) (by omega) (by omega)), decide_eq_true hv, bi_nd (show f_X12_in (nI v).toInt64 (0 : Int64) (lN (gr_ t)) = some 1 from q3), c1_0, show nI (true).toNat = (1 : Int32) from rfl, c1_0]
  obtain ⟨s, hs, s1, s2, s3⟩ := h0.H
  by_cases h10 : s = 12
  · subst h10
    simp (disch := omega) only [s1, s2, li_0, li_1, li_12, c_leT, c_eqT, if_true, ob_s]
    exact ⟨_, _, _, rfl, rfl, h0.rel⟩
  · simp (disch := omega) only [rFA, s1, s2, li_0, li_1, li_12, c_leF, c_eqF, gd_n, nI_clamp, nI_add, rFs, ob_s]
    refine ⟨_, _, _, rfl, rfl, Rl_.rel (B := B) (T := T) (m := m) (C := C) (rl_SH h0 rfl rfl (fun p _ hp => (rFp hp).trans rfl) (fun p hp => ?_) (fun j _ hj => (rFj hj).trans rfl) rfl (fun p _ _ h1 h2 => ?_) ?_ ⟨s + 1, by omega, rFs, rFs, fun i hi => ?_⟩)⟩
    · rw [rAF, rAp (by omega), rAp (by omega)]
    · rw [rAF, rAp h2, rAp h1]
    · refine h0.S.cg ((rFp (by omega)).trans rfl) ?_ ?_ ?_ ((rFj (by omega)).trans rfl) ?_ ?_
      · rw [rAF, rAp (by omega), rAp (by omega)]
      · rw [rAF, rAp (by omega), rAp (by omega)]
      · rw [rAF, rAp (by omega), rAp (by omega)]
      · rw [rAF, rAp (by omega), rAp (by omega)]
      · rw [rAF, rAp (by omega), rAp (by omega)]
    · by_cases e : i = s
      · subst e
        refine ⟨t, v, by omega, hv, ?_, ?_, ?_, ?_⟩
        · rw [rAF, rAp (by omega), rAs]
        · rw [rAF, rAs]
        · rw [rAF, rAp (by omega), rAs]
        · rw [rAF, rAs]
      · obtain ⟨t', v', k1, k2, k3, k4, k5, k6⟩ := s3 i (by omega)
        refine ⟨t', v', k1, k2, ?_, ?_, ?_, ?_⟩
        · rw [rAF, rAp (by omega), rAj e]; exact k3
        · rw [rAF, rAj e, rAp (by omega)]; exact k4
        · rw [rAF, rAp (by omega), rAj e]; exact k5
        · rw [rAF, rAj e, rAp (by omega)]; exact k6
/-- whether a thing is so of an oyster -/
def soP (B : Bd_) (t v k : Nat) : Bool := if t = 0 then decide (B.2.1 0 k = v) else if t = 1 then decide (v ≤ B.2.1 1 k) else if t = 2 then (B.2.1 2 k).testBit v else if t = 3 then decide ((if B.2.1 3 k = 0 then 1 else 0) = v) else decide (v ≤ B.2.1 4 k)
section SO_
variable {B : Bd_} {T : Nat × (Nat → Nat)} {m : Nat} {C : Lw} {χ σ : St}
theorem Rl_.so1 (h : Rl_ B T m C χ σ) {t v k : Nat} (ht : t < 5) (hv : v ≤ gr_ t) (hk : k < B.1) : f_X4_isSo χ 32 (nI k) (nI t) (nI v) = some (nI (soP B t v k).toNat) ∧ f_X12_isSo σ (nI k) (nI t) (nI v) = some (nI (soP B t v k).toNat) := by
  have h8 := h.W.1
  have b0 := h.W.b0 hk
  have b1 := h.W.b1 hk
  have b2 := h.W.b2 hk
  have b3 := h.W.b3 hk
  have b4 := h.W.b4 hk
  have g9 := (gq_ok t ht).2.2
  have hc : t = 0 ∨ t = 1 ∨ t = 2 ∨ t = 3 ∨ t = 4 := by omega
  unfold f_X4_isSo f_X4_isSo_j102 f_X4_isSo_j112 f_X12_isSo f_X12_isSo_j95 soP
  rcases hc with rfl | rfl | rfl | rfl | rfl
  · simp (disch := omega) only [li_0, li_1, li_2, li_3, li_4, c_eqT, if_true, gd_n, nI_clamp, h.b.k0 hk, h.r.k0 hk, c_eqN]
    by_cases q : B.2.1 0 k = v
    · rw [if_pos q, decide_eq_true q]; exact ⟨rfl, rfl⟩
    · rw [if_neg q, decide_eq_false q]; exact ⟨rfl, rfl⟩
  · simp (disch := omega) only [li_0, li_1, li_2, li_3, li_4, c_eqT, c_eqF, if_true, gd_n, nI_clamp, h.b.k1 hk, h.r.k1 hk, c_ltN, if_neg (show ¬ (1 : Nat) = 0 by omega)]
    by_cases q : B.2.1 1 k < v
    · rw [if_pos q, decide_eq_false (by omega)]; exact ⟨rfl, rfl⟩
    · rw [if_neg q, decide_eq_true (by omega)]; exact ⟨rfl, rfl⟩
  · simp (disch := omega) only [li_0, li_1, li_2, li_3, li_4, li_8, c_eqT, c_eqF, if_true, gd_n, nI_clamp, nI_add, h.b.k2 hk, h.r.k2 hk, ha_n, x12_ha, ob_s, if_neg (show ¬ (2 : Nat) = 0 by omega), if_neg (show ¬ (2 : Nat) = 1 by omega)]
    cases (B.2.1 2 k).testBit v
    · exact ⟨rfl, gd_t nb_0⟩
    · exact ⟨rfl, gd_t nb_1⟩
  · have hv1 : v ≤ 1 := hv
    simp (disch := omega) only [li_0, li_1, li_2, li_3, li_4, li_16, c_eqT, c_eqF, if_true, gd_n, nI_clamp, nI_add, h.b.k3 hk, h.r.k3 hk, c_eqN, if_neg (show ¬ (3 : Nat) = 0 by omega), if_neg (show ¬ (3 : Nat) = 1 by omega), if_neg (show ¬ (3 : Nat) = 2 by omega)]
    have hc2 : v = 0 ∨ v = 1 := by omega
    by_cases q : B.2.1 3 k = 0
    · rw [if_pos q, if_pos q]
      rcases hc2 with rfl | rfl
      · exact ⟨rfl, rfl⟩
      · exact ⟨rfl, rfl⟩
    · rw [if_neg q, if_neg q]
      rcases hc2 with rfl | rfl
      · exact ⟨rfl, rfl⟩
      · exact ⟨rfl, rfl⟩
  · simp (disch := omega) only [li_0, li_1, li_2, li_3, li_4, li_24, c_eqT, c_eqF, if_true, gd_n, nI_clamp, nI_add, h.b.k4 hk, h.r.k4 hk, c_ltN, if_neg (show ¬ (4 : Nat) = 0 by omega), if_neg (show ¬ (4 : Nat) = 1 by omega), if_neg (show ¬ (4 : Nat) = 2 by omega), if_neg (show ¬ (4 : Nat) = 3 by omega)]
    by_cases q : B.2.1 4 k < v
    · rw [if_pos q, decide_eq_false (by omega)]; exact ⟨rfl, rfl⟩
    · rw [if_neg q, decide_eq_true (by omega)]; exact ⟨rfl, rfl⟩
theorem Rl_.on (h : Rl_ B T m C χ σ) {t v : Nat} (ht : t < 5) (hv : v ≤ gr_ t) : f_X4_onesSuch χ 32 (nI t) (nI v) = some (nI (bi (soP B t v) B.1)) := by
  have h8 := h.W.1
  unfold f_X4_onesSuch
  refine bi_nd (it_for (fun k => (nI (bi (soP B t v) k), nI k)) B.1 (by omega) rfl (fun k hk => ?_) ?_)
  · have e := (h.so1 ht hv hk).1
    show f_X4_onesSuch_s5 32 χ (nI t) (nI v) (nI (bi (soP B t v) k)) (nI k) = _
    unfold f_X4_onesSuch_s5 f_X4_onesSuch_j32_5
    simp (disch := omega) only [h.b.n, c_leF, e, ob_s, li_0, li_1, nI_add, sh_1]
    by_cases hp : soP B t v k = true
    · rw [hp, c_eqF (by decide) (by decide) (by decide), bi_T hp]
    · rw [Bool.eq_false_iff.mpr hp, if_pos (show nI (false).toNat = nI 0 from rfl), ← bi_F hp]
  · show f_X4_onesSuch_s5 32 χ (nI t) (nI v) (nI (bi (soP B t v) B.1)) (nI B.1) = _
    unfold f_X4_onesSuch_s5
    simp (disch := omega) only [h.b.n, c_leT]
/-- who fits -/
theorem Rl_.fi (h : Rl_ B T m C χ σ) : ∃ ft : Nat → Bool, f_X4_onesOf χ 32 = some (nI (bi ft B.1)) ∧ f_X12_fitting σ = some (nI (bi ft B.1)) := by
  have h8 := h.W.1
  obtain ⟨s, hs, s1, s2, s3⟩ := h.H
  have hf : ∀ i, i < s → (cA χ 14 i).toNatClampNeg < 5 ∧ (cA χ 15 i).toNatClampNeg ≤ gr_ (cA χ 14 i).toNatClampNeg ∧ cA χ 14 i = nI (cA χ 14 i).toNatClampNeg ∧ cA χ 15 i = nI (cA χ 15 i).toNatClampNeg ∧ cA σ 332 i = nI (cA χ 14 i).toNatClampNeg ∧ cA σ 333 i = nI (cA χ 15 i).toNatClampNeg := by
    intro i hi
    obtain ⟨t, v, k1, k2, k3, k4, k5, k6⟩ := s3 i hi
    have g9 := (gq_ok t k1).2.2
    have k2' : v ≤ gr_ t := k2
    rw [k3, k4, k5, k6, nI_clamp (by omega), nI_clamp (by omega)]
    exact ⟨k1, k2, rfl, rfl, rfl, rfl⟩
  refine ⟨fun k => al_ (fun i => soP B (cA χ 14 i).toNatClampNeg (cA χ 15 i).toNatClampNeg k) s, ?_, ?_⟩
  · unfold f_X4_onesOf
    rw [bi_nd h.al.1]
    refine bi_nd (it_for (fun i => (nI (bi (fun k => al_ (fun i => soP B (cA χ 14 i).toNatClampNeg (cA χ 15 i).toNatClampNeg k) i) B.1), nI i)) s (by omega) ?_ (fun i hi => ?_) ?_)
    · show (nI (bi (fun k => true) B.1), nI 0) = _
      rw [bi_n1]
      rfl
    · obtain ⟨k1, k2, k3, k4, -, -⟩ := hf i hi
      show f_X4_onesOf_s7 32 χ (nI (bi (fun k => al_ (fun i => soP B (cA χ 14 i).toNatClampNeg (cA χ 15 i).toNatClampNeg k) i) B.1)) (nI i) = _
      unfold f_X4_onesOf_s7
      rw [s1, if_neg (nI_ge hi (by omega)), gd_n (by omega) (by omega), gd_n (by omega) (by omega), nI_clamp (by omega), k3, k4, bi_nd (h.on k1 k2), nI_an, bi_and, nI_1]
      congr 5
      funext k
      rw [al_st, Bool.and_comm]
    · show f_X4_onesOf_s7 32 χ _ (nI s) = _
      unfold f_X4_onesOf_s7
      rw [s1, if_pos (nI_le (Nat.le_refl _) (by omega))]
  · unfold f_X12_fitting
    refine bi_nd (it_for (fun k => (nI (bi (fun k => al_ (fun i => soP B (cA χ 14 i).toNatClampNeg (cA χ 15 i).toNatClampNeg k) s) k), nI k)) B.1 (by omega) rfl (fun k hk => ?_) ?_)
    · have e1 : iter (fun z : Int32 × Int32 => f_X12_fitting_s17 σ (nI (bi (fun k => al_ (fun i => soP B (cA χ 14 i).toNatClampNeg (cA χ 15 i).toNatClampNeg k) s) k)) (nI k) z.1 z.2) FU ((1 : Int32), (0 : Int32)) = some (nI (al_ (fun i => soP B (cA χ 14 i).toNatClampNeg (cA χ 15 i).toNatClampNeg k) s).toNat) := by
        refine it_for (fun i => (nI (al_ (fun i => soP B (cA χ 14 i).toNatClampNeg (cA χ 15 i).toNatClampNeg k) i).toNat, nI i)) s (by omega) rfl (fun i hi => ?_) ?_
        · obtain ⟨k1, k2, -, -, k5, k6⟩ := hf i hi
          have e := (h.so1 k1 k2 hk).2
          show f_X12_fitting_s17 σ _ (nI k) _ (nI i) = _
          unfold f_X12_fitting_s17 f_X12_fitting_j57_17
          rw [s2, if_neg (nI_ge hi (by omega)), gd_n (by omega) (by omega), gd_n (by omega) (by omega), nI_clamp (show i < 2 ^ 31 by omega), k5, k6, bi_nd e, al_st, nI_1]
          cases soP B (cA χ 14 i).toNatClampNeg (cA χ 15 i).toNatClampNeg k <;> cases al_ (fun i => soP B (cA χ 14 i).toNatClampNeg (cA χ 15 i).toNatClampNeg k) i <;> rfl
        · show f_X12_fitting_s17 σ _ (nI k) _ (nI s) = _
          unfold f_X12_fitting_s17
          rw [s2, if_pos (nI_le (Nat.le_refl _) (by omega))]
      show f_X12_fitting_s4 σ (nI (bi (fun k => al_ (fun i => soP B (cA χ 14 i).toNatClampNeg (cA χ 15 i).toNatClampNeg k) s) k)) (nI k) = _
      unfold f_X12_fitting_s4 f_X12_fitting_j76_4
      rw [h.r.n, if_neg (nI_ge hk (by omega)), bi_nd e1]
      by_cases hp : al_ (fun i => soP B (cA χ 14 i).toNatClampNeg (cA χ 15 i).toNatClampNeg k) s = true
      · rw [hp, if_neg (show ¬ nI (true).toNat = 0 by decide), show (1 : Int32) = nI 1 from rfl, sh_1 k (by omega), bi_T (p := fun k => al_ (fun i => soP B (cA χ 14 i).toNatClampNeg (cA χ 15 i).toNatClampNeg k) s) hp, nI_add]
      · rw [Bool.eq_false_iff.mpr hp, if_pos (show nI (false).toNat = 0 from rfl), show (0 : Int32) = nI 0 from rfl, bi_F0 (p := fun k => al_ (fun i => soP B (cA χ 14 i).toNatClampNeg (cA χ 15 i).toNatClampNeg k) s) hp, nI_1]
    · show f_X12_fitting_s4 σ _ (nI B.1) = _
      unfold f_X12_fitting_s4
      rw [h.r.n, if_pos (nI_le (Nat.le_refl _) (by omega))]
end SO_
theorem y_40 (χ σ : St) (h : Rel_ χ σ) : ∃ (v : Int32) (χ1 : St) (σ1 : St), f_X11_fits χ = some (v, χ1) ∧ f_X12_fits σ = some (v, σ1) ∧ Rel_ χ1 σ1 := by
  obtain ⟨B, T, m, C, h⟩ := h
  have h0 := h.th
  unfold f_X11_fits f_X12_fits
  generalize sF σ 300 0 (0 : Int32) = σ0 at h0 ⊢
  obtain ⟨ft, e1, e2⟩ := h0.fi
  obtain ⟨χ3, σ3, e3, e4, h3⟩ := rl_ad (rl_st h0) (by omega) (nI (cn ft B.1)).toInt64
  simp only [e1, e2, ob_s, x9_s0, h0.b16, e3, e4]
  exact ⟨_, _, _, rfl, rfl, h3.rel⟩
/-- what is left at most by a thing that may be heard -/
def lf_ (B : Bd_) (ft : Nat → Bool) (q : Nat) : Nat := if cn (fun k => ft k && soP B (q / 10) (q % 10) k) B.1 < cn ft B.1 - cn (fun k => ft k && soP B (q / 10) (q % 10) k) B.1 then cn ft B.1 - cn (fun k => ft k && soP B (q / 10) (q % 10) k) B.1 else cn (fun k => ft k && soP B (q / 10) (q % 10) k) B.1
def fa_ (B : Bd_) (ft : Nat → Bool) : Nat → Nat × Nat
  | 0 => (0, 9)
  | q + 1 => if q % 10 ≤ gr_ (q / 10) then (if (fa_ B ft q).2 ≤ lf_ B ft q then fa_ B ft q else (q, lf_ B ft q)) else fa_ B ft q
theorem fa_s (B : Bd_) (ft : Nat → Bool) (q : Nat) : fa_ B ft (q + 1) = if q % 10 ≤ gr_ (q / 10) then (if (fa_ B ft q).2 ≤ lf_ B ft q then fa_ B ft q else (q, lf_ B ft q)) else fa_ B ft q := rfl
theorem cn_mo {p q : Nat → Bool} {n : Nat} (h : ∀ k, p k = true → q k = true) : cn p n ≤ cn q n := by
  have := cn_sp h n
  omega
theorem lf_le {B : Bd_} {ft : Nat → Bool} {q : Nat} (h8 : B.1 ≤ 8) : lf_ B ft q ≤ 8 := by
  have h1 := cn_le ft B.1
  have h2 := cn_le (fun k => ft k && soP B (q / 10) (q % 10) k) B.1
  unfold lf_
  split <;> omega
theorem fa_le {B : Bd_} {ft : Nat → Bool} (h8 : B.1 ≤ 8) : ∀ q, q ≤ 50 → (fa_ B ft q).1 ≤ 50 ∧ (fa_ B ft q).2 ≤ 9 := by
  intro q
  induction q with
  | zero => intro _; exact ⟨Nat.zero_le _, Nat.le_refl _⟩
  | succ q ih =>
    intro hq
    have h1 := ih (by omega)
    have h2 := lf_le (q := q) (ft := ft) h8
    rw [fa_s]
    split
    · split
      · exact h1
      · exact ⟨by show q ≤ 50; omega, by show lf_ B ft q ≤ 9; omega⟩
    · exact h1
theorem y_41 (χ σ : St) (h : Rel_ χ σ) : ∃ (v : Int32) (χ1 : St) (σ1 : St), f_X11_asks χ = some (v, χ1) ∧ f_X12_asks σ = some (v, σ1) ∧ Rel_ χ1 σ1 := by
  obtain ⟨B, T, m, C, h⟩ := h
  have h0 := h.th
  have h8 := h.W.1
  unfold f_X11_asks f_X12_asks
  generalize sF σ 300 0 (0 : Int32) = σ0 at h0 ⊢
  obtain ⟨ft, e1, e2⟩ := h0.fi
  have hb := bi_31 ft (n := B.1) (by omega)
  rw [bi_nd e1, bi_nd e2]
  by_cases hz : bi ft B.1 = 0
  · rw [hz, if_pos (show nI 0 = 0 from rfl), if_pos (show nI 0 = 0 from rfl)]
    exact ⟨_, _, _, rfl, rfl, h0.rel⟩
  rw [if_neg (show ¬ nI (bi ft B.1) = 0 from nI_ne0 (by omega) (by omega)), if_neg (show ¬ nI (bi ft B.1) = 0 from nI_ne0 (by omega) (by omega))]
  have hcl : ∀ t v, cn (fun k => ft k && soP B t v k) B.1 ≤ cn ft B.1 := fun t v => cn_mo (fun k q => by rw [Bool.and_eq_true] at q; exact q.1)
  have hcf := cn_le ft B.1
  have e3 : iter (fun z : Int32 × Int32 × Int32 => f_X11_asks_s27 χ (nI (bi ft B.1)) z.1 z.2.1 z.2.2) FU ((0 : Int32), (9 : Int32), (0 : Int32)) = some (nI (fa_ B ft 50).1, nI (fa_ B ft 50).2) := by
    refine it_for (fun q => (nI (fa_ B ft q).1, nI (fa_ B ft q).2, nI q)) 50 (by omega) rfl (fun q hq => ?_) rfl
    have f1 := fa_le (ft := ft) h8 q (by omega)
    have f2 := lf_le (q := q) (ft := ft) h8
    have hc := hcl (q / 10) (q % 10)
    have be := be_1 (t := q / 10) (v := q % 10) (by omega) (by omega)
    show f_X11_asks_s27 χ (nI (bi ft B.1)) (nI (fa_ B ft q).1) (nI (fa_ B ft q).2) (nI q) = _
    unfold f_X11_asks_s27 f_X11_asks_j100_27
    simp (disch := omega) only [li_0, li_1, li_10, li_50, c_leF, pk_div, pk_rn, be, ob_s, nI_add, fa_s]
    by_cases hg : q % 10 ≤ gr_ (q / 10)
    · have eo := h0.on (t := q / 10) (v := q % 10) (by omega) hg
      simp (disch := omega) only [decide_eq_true hg, Bool.toNat_true, c_eqF, eo, ob_s, nI_an, bi_and, h0.b16, pk_sub, c_ltN, nI_sI, if_pos hg]
      show some (Sum.inl (nI (if nI (fa_ B ft q).2 ≤ nI (lf_ B ft q) then (fa_ B ft q).1 else q), nI (if nI (fa_ B ft q).2 ≤ nI (lf_ B ft q) then (fa_ B ft q).2 else lf_ B ft q), nI (q + 1))) = _
      by_cases hle : (fa_ B ft q).2 ≤ lf_ B ft q
      · simp (disch := omega) only [c_leT, if_pos hle]
      · simp (disch := omega) only [c_leF, if_neg hle]
    · simp (disch := omega) only [decide_eq_false hg, Bool.toNat_false, c_eqT, if_true, if_neg hg]
  have fk : ∀ t, t < 5 → ∀ d, gr_ t + 1 + d ≤ 10 → fa_ B ft (10 * t + (gr_ t + 1 + d)) = fa_ B ft (10 * t + (gr_ t + 1)) := by
    intro t ht d
    induction d with
    | zero => intro _; rfl
    | succ d ih =>
      intro hd
      rw [show 10 * t + (gr_ t + 1 + (d + 1)) = (10 * t + (gr_ t + 1 + d)) + 1 by omega, fa_s, show (10 * t + (gr_ t + 1 + d)) % 10 = gr_ t + 1 + d by omega, show (10 * t + (gr_ t + 1 + d)) / 10 = t by omega, if_neg (by omega)]
      exact ih (by omega)
  obtain ⟨x, e4, hx⟩ := it_inv (step := fun z : Int32 × Int32 × Int32 => f_X12_asks_s26 σ0 (nI (bi ft B.1)) z.1 z.2.1 z.2.2) (s := ((-1 : Int32), (1000000 : Int32), (0 : Int32)))
    (fun t z => z.2.2 = nI t ∧ ((t = 0 ∧ z.1 = -1 ∧ z.2.1 = nI 1000000) ∨ (0 < t ∧ z.1 = nI (fa_ B ft (10 * t)).1 ∧ z.2.1 = nI (fa_ B ft (10 * t)).2))) (fun x => x = (nI (fa_ B ft 50).1, nI (fa_ B ft 50).2)) 5 (by omega) ⟨rfl, Or.inl ⟨rfl, rfl, rfl⟩⟩
    (fun t z ht hI => by
      obtain ⟨z1, z2, z3⟩ := z
      obtain ⟨rfl, hI⟩ := hI
      dsimp only at hI
      have g := gq_ok t ht
      obtain ⟨y, e5, hy⟩ := it_inv (step := fun z : Int32 × Int32 × Int32 => f_X12_asks_s35 σ0 (nI (bi ft B.1)) (nI t) z.1 z.2.1 z.2.2) (s := (z1, z2, (0 : Int32)))
        (fun v z => z.2.2 = nI v ∧ ((10 * t + v = 0 ∧ z.1 = -1 ∧ z.2.1 = nI 1000000) ∨ (0 < 10 * t + v ∧ z.1 = nI (fa_ B ft (10 * t + v)).1 ∧ z.2.1 = nI (fa_ B ft (10 * t + v)).2))) (fun x => x = (nI (fa_ B ft (10 * t + (gr_ t + 1))).1, nI (fa_ B ft (10 * t + (gr_ t + 1))).2)) (gr_ t + 1) (by omega)
        ⟨rfl, by rcases hI with ⟨a, b, c⟩ | ⟨a, b, c⟩
                 · exact Or.inl ⟨by omega, b, c⟩
                 · exact Or.inr ⟨by omega, b, c⟩⟩
        (fun v w hv hJ => by
          obtain ⟨w1, w2, w3⟩ := w
          obtain ⟨rfl, hJ⟩ := hJ
          dsimp only at hJ
          have f1 := fa_le (ft := ft) h8 (10 * t + v) (by omega)
          have f2 := lf_le (q := 10 * t + v) (ft := ft) h8
          have hc := hcl t v
          have hq1 : (10 * t + v) / 10 = t := by omega
          have hq2 : (10 * t + v) % 10 = v := by omega
          have hlf : lf_ B ft (10 * t + v) = if cn (fun k => ft k && soP B t v k) B.1 < cn ft B.1 - cn (fun k => ft k && soP B t v k) B.1 then cn ft B.1 - cn (fun k => ft k && soP B t v k) B.1 else cn (fun k => ft k && soP B t v k) B.1 := by
            unfold lf_
            rw [hq1, hq2]
          have e6 : iter (fun z : Int32 × Int32 => f_X12_asks_s51 σ0 (nI (bi ft B.1)) w1 w2 (nI t) (nI v) z.1 z.2) FU ((0 : Int32), (0 : Int32)) = some (nI (cn (fun k => ft k && soP B t v k) B.1)) := by
            refine it_for (fun k => (nI (cn (fun k => ft k && soP B t v k) k), nI k)) B.1 (by omega) rfl (fun k hk => ?_) ?_
            · have e := (h0.so1 ht (show v ≤ gr_ t by omega) hk).2
              have tb : (bi ft B.1).testBit k = ft k := by rw [bi_tb, decide_eq_true hk]; rfl
              show f_X12_asks_s51 σ0 (nI (bi ft B.1)) w1 w2 (nI t) (nI v) (nI (cn (fun k => ft k && soP B t v k) k)) (nI k) = _
              unfold f_X12_asks_s51 f_X12_asks_j89_51
              simp (disch := omega) only [h0.r.n, c_leF, x12_ha, tb, ob_s, li_0, li_1, e, nI_add, cn_s]
              cases ft k <;> cases soP B t v k <;> simp (disch := omega) only [Bool.toNat_true, Bool.toNat_false, c_eqT, c_eqF, if_true, fl_0, fl_1, ob_s, nI_add, Bool.and_true, Bool.true_and, Bool.false_and, Bool.and_false, Nat.add_zero, Bool.false_eq_true, if_false]
            · show f_X12_asks_s51 σ0 (nI (bi ft B.1)) w1 w2 (nI t) (nI v) _ (nI B.1) = _
              unfold f_X12_asks_s51
              simp (disch := omega) only [h0.r.n, c_leT]
          show ∃ s', f_X12_asks_s35 σ0 (nI (bi ft B.1)) (nI t) w1 w2 (nI v) = some (.inl s') ∧ _
          unfold f_X12_asks_s35 f_X12_asks_j133_35
          simp (disch := omega) only [g.2.1, ob_s, c_ltF, bi_nd e6, h0.b16, pk_sub, c_ltN, nI_sI, li_1, li_10, pk_mul, nI_add]
          rw [← hlf]
          have hs := fa_s B ft (10 * t + v)
          rw [hq1, hq2, if_pos (show v ≤ gr_ t by omega)] at hs
          rcases hJ with ⟨a, rfl, rfl⟩ | ⟨a, rfl, rfl⟩
          · have : t = 0 ∧ v = 0 := by omega
            obtain ⟨rfl, rfl⟩ := this
            rw [if_neg (show ¬ (fa_ B ft 0).2 ≤ lf_ B ft 0 by show ¬ 9 ≤ lf_ B ft (10 * 0 + 0); omega)] at hs
            rw [if_neg (nI_ge (show lf_ B ft (10 * 0 + 0) < 1000000 by omega) (by omega)), if_pos (nI_lt (show lf_ B ft (10 * 0 + 0) < 1000000 by omega) (by omega))]
            refine ⟨_, rfl, rfl, Or.inr ⟨by omega, ?_, ?_⟩⟩
            · show nI (10 * 0 + 0) = nI (fa_ B ft (10 * 0 + 0 + 1)).1
              rw [hs]
            · show nI (lf_ B ft (10 * 0 + 0)) = nI (fa_ B ft (10 * 0 + 0 + 1)).2
              rw [hs]
          · by_cases hle : (fa_ B ft (10 * t + v)).2 ≤ lf_ B ft (10 * t + v)
            · rw [if_pos hle] at hs
              rw [if_pos (nI_le hle (by omega)), if_neg (nI_nlt hle (by omega))]
              refine ⟨_, rfl, rfl, Or.inr ⟨by omega, ?_, ?_⟩⟩
              · show nI (fa_ B ft (10 * t + v)).1 = nI (fa_ B ft (10 * t + v + 1)).1
                rw [hs]
              · show nI (fa_ B ft (10 * t + v)).2 = nI (fa_ B ft (10 * t + v + 1)).2
                rw [hs]
            · rw [if_neg hle] at hs
              rw [if_neg (nI_ge (by omega) (by omega)), if_pos (nI_lt (by omega) (by omega))]
              refine ⟨_, rfl, rfl, Or.inr ⟨by omega, ?_, ?_⟩⟩
              · show nI (10 * t + v) = nI (fa_ B ft (10 * t + v + 1)).1
                rw [hs]
              · show nI (lf_ B ft (10 * t + v)) = nI (fa_ B ft (10 * t + v + 1)).2
                rw [hs])
        (fun w hJ => by
          obtain ⟨w1, w2, w3⟩ := w
          obtain ⟨rfl, hJ⟩ := hJ
          dsimp only at hJ
          rcases hJ with ⟨a, -, -⟩ | ⟨a, rfl, rfl⟩
          · omega
          · refine ⟨_, ?_, rfl⟩
            show f_X12_asks_s35 σ0 (nI (bi ft B.1)) (nI t) _ _ (nI (gr_ t + 1)) = _
            unfold f_X12_asks_s35
            simp (disch := omega) only [g.2.1, ob_s, c_ltT])
      subst hy
      show ∃ s', f_X12_asks_s26 σ0 (nI (bi ft B.1)) z1 z2 (nI t) = some (.inl s') ∧ _
      unfold f_X12_asks_s26
      rw [if_neg (show ¬ (5 : Int32) ≤ nI t from nI_ge (b := 5) ht (by omega)), bi_nd e5]
      have hk := fk t ht (9 - gr_ t) (by omega)
      rw [show gr_ t + 1 + (9 - gr_ t) = 10 by omega] at hk
      refine ⟨_, rfl, by rw [nI_1], Or.inr ⟨by omega, ?_, ?_⟩⟩
      · show nI (fa_ B ft (10 * t + (gr_ t + 1))).1 = nI (fa_ B ft (10 * (t + 1))).1
        rw [show 10 * (t + 1) = 10 * t + 10 by omega, hk]
      · show nI (fa_ B ft (10 * t + (gr_ t + 1))).2 = nI (fa_ B ft (10 * (t + 1))).2
        rw [show 10 * (t + 1) = 10 * t + 10 by omega, hk])
    (fun z hI => by
      obtain ⟨z1, z2, z3⟩ := z
      obtain ⟨rfl, hI⟩ := hI
      dsimp only at hI
      rcases hI with ⟨a, -, -⟩ | ⟨a, rfl, rfl⟩
      · omega
      · exact ⟨_, rfl, rfl⟩)
  subst hx
  obtain ⟨χ3, σ3, e7, e8, h3⟩ := rl_ad (rl_st h0) (by omega) (nI (fa_ B ft 50).2).toInt64
  rw [bi_nd e3, bi_nd e4, x9_s0, ob_s]
  dsimp only
  rw [bi_nd e7, bi_nd e8]
  exact ⟨_, _, _, rfl, rfl, h3.rel⟩
