/-! LAYER 2: tides, stills, holds, knife, undo, keep, again. -/
theorem y_7 (χ σ : St) (a1 : Int32) (h : Rel_ χ σ) : ∃ (v : Int32) (χ1 : St) (σ1 : St), f_X11_tides χ a1 = some (v, χ1) ∧ f_X12_tides σ a1 = some (v, σ1) ∧ Rel_ χ1 σ1 := by
  obtain ⟨B, T, m, C, h⟩ := h
  have h0 := h.th
  have h8 := h.W.1
  unfold f_X11_tides f_X12_tides
  generalize sF σ 300 0 (0 : Int32) = σ0 at h0 ⊢
  rcases in_ca a1 0 60 (by omega) (by omega) with ⟨q1, q2⟩ | ⟨n, -, hn, rfl, q1⟩
  · refine ⟨-1, χ, σ0, ?_, ?_, h0.rel⟩
    · by_cases hz : a1 < 0
      · rw [if_pos hz]
      · rw [if_neg hz, if_neg (show ¬ a1 ≤ (60 : Int32) from lt_le (q2.resolve_left hz))]
    · rw [bi_nd (show f_X12_in a1.toInt64 (0 : Int64) (60 : Int64) = some 0 from q1)]; rfl
  rw [if_neg (show ¬ nI n < 0 from nI_pos (by omega)), if_pos (show nI n ≤ (60 : Int32) from nI_le (b := 60) hn (by omega)), bi_nd (show f_X12_in (nI n).toInt64 (0 : Int64) (60 : Int64) = some 1 from q1), c1_0]
  obtain ⟨pl, u, s1, hpl, hu, p1, p2, p3, e1, h1, hro⟩ := rl_pb h0
  obtain ⟨x1, e2, k1, k2, k3, k4, k5, k6, k7⟩ := x6_pu (b1 := 32) (Or.inl rfl) hpl hu p1 p2 h1.W h1.b
  have hv := h1.L.w
  have hb1 : BC_ 32 B x1 := h1.b.cg (k5 32 (by omega) (by omega)) (fun j _ _ => k6 _ (by omega))
  obtain ⟨x2, e3, hb2, hf2⟩ := x0_go (w := (cW x1).1 + 4) (b := 32) (t := n) h1.W hb1 (by omega)
  obtain ⟨s2, e4, hr2, hg2⟩ := x12_go (r := 306) (t := n) (by omega) h1.W h1.r (by omega)
  have hW2 := goB_w (t := n) h1.W
  have hr2b := hr2.cg (σ' := sF s2 300 1 0) (rFj (by omega)) rfl rfl
  have o0 := x12_op hW2 hr2b
  have hnt : nI (bi (oP_ (goB B n) 0) B.1) &&& (nI (bi (oP_ B 0) B.1) ^^^ (-1 : Int32)) = nI (bi (fun i => oP_ (goB B n) 0 i && !oP_ B 0 i) B.1) := by
    rw [show (-1 : Int32) = -nI 1 from rfl, bi_ntn _ _ (by omega) (by omega)]
    rw [bi_ex (q := fun i => oP_ (goB B n) 0 i && !oP_ B 0 i) (fun i hi => by rw [decide_eq_true hi]; rfl)]
  have e5 := x9_add (χ := sF x2 3 1 0) (m := 0) (a := (nI (bi (fun i => oP_ (goB B n) 0 i && !oP_ B 0 i) B.1)).toInt64) rFs (by omega)
  have e6 := x12_ent (σ := sF s2 300 1 0) (m := 0) (a := (nI (bi (fun i => oP_ (goB B n) 0 i && !oP_ B 0 i) B.1)).toInt64) rFs (by omega)
  have hRO : RO 1 (sF (sL (sF x2 3 1 0) 4 0 (nI (bi (fun i => oP_ (goB B n) 0 i && !oP_ B 0 i) B.1)).toInt64) 3 1 (nI (0 + 1))) (sF (sL (sF s2 300 1 0) 302 0 (nI (bi (fun i => oP_ (goB B n) 0 i && !oP_ B 0 i) B.1)).toInt64) 300 1 (nI (0 + 1))) := by
    refine ⟨by omega, rFs, rFs, fun i hi => ?_⟩
    rw [show i = 0 by omega, rLF, rLF, rLs, rLs]
  generalize hx3 : sF (sL (sF x2 3 1 0) 4 0 (nI (bi (fun i => oP_ (goB B n) 0 i && !oP_ B 0 i) B.1)).toInt64) 3 1 (nI (0 + 1)) = x3 at e5 hRO
  generalize hs3 : sF (sL (sF s2 300 1 0) 302 0 (nI (bi (fun i => oP_ (goB B n) 0 i && !oP_ B 0 i) B.1)).toInt64) 300 1 (nI (0 + 1)) = s3 at e6 hRO
  have hA3 : cA x3 = cA x2 := by rw [← hx3]; rfl
  have hF3 : ∀ p, p ≠ 3 → cF x3 p = cF x2 p := fun p hp => by rw [← hx3, rFp hp, rFL, rFp hp]
  have hW3 : cW x3 = cW x2 := by rw [← hx3]; rfl
  have hG3 : ∀ j, j ≠ 1 → cF s3 300 j = cF s2 300 j := fun j hj => by rw [← hs3, rFj hj, rFL, rFj hj]
  have hB3 : cA s3 = cA s2 := by rw [← hs3]; rfl
  have hb3 := hb2.cg (χ' := x3) (hF3 32 (by omega)) (fun j _ _ => by rw [hA3])
  have hr3 := hr2.cg (σ' := s3) (hG3 3 (by omega)) (by rw [hB3]) (by rw [hB3])
  have o1 := x0_op hW2 hb3
  have o2 := x12_op hW2 hr3
  have gF : ∀ p, p ≠ 3 → p ≠ 32 → p ≠ 5 → p ≠ 48 + 8 * pl → cF x3 p = cF χ p := fun p a b c d => (hF3 p a).trans ((hf2.2.2.1 p b).trans (k5 p c d))
  have gA : ∀ p, p ≠ (cW x1).1 + 4 → (p < 33 ∨ 37 < p) → (p < 49 + 8 * pl ∨ 53 + 8 * pl < p) → cA x3 p = cA χ p := fun p a b c => by rw [hA3]; exact (hf2.2.2.2 p a (by omega)).trans (k6 p c)
  have gG : ∀ j, j ≠ 1 → cF s3 300 j = cF s1 300 j := fun j hj => (hG3 j hj).trans (by rw [hg2.1])
  have gB : ∀ p, p ≠ 306 → p ≠ 319 → p ≠ 320 → cA s3 p = cA s1 p := fun p a b c => by rw [hB3]; exact hg2.2.2 p a b c
  rw [k1] at gA
  have hup : RUp B.1 B x3 s3 := by
    refine ru_pp h1.U p1 p2 hpl hu ?_ ?_ (fun p a b c d => gF p (by omega) (by omega) a b) (fun p a b c => gA p (by omega) (by omega) c) ?_ ((gG 21 (by omega)).trans p3) (gG 3 (by omega)) (gB 305 (by omega) (by omega) (by omega)) (fun i _ => by rw [gB 322 (by omega) (by omega) (by omega)]) ?_
    · rw [hF3 5 (by omega), hf2.2.2.1 5 (by omega)]; exact k3
    · rw [hF3 5 (by omega), hf2.2.2.1 5 (by omega)]; exact k4
    · exact k7.cg ((hF3 _ (by omega)).trans (hf2.2.2.1 _ (by omega))) (fun j _ _ => by rw [hA3]; exact hf2.2.2.2 _ (by rw [k1]; omega) (by omega))
    · exact hro.cg (gG 3 (by omega)) (gB 305 (by omega) (by omega) (by omega)) (gB 322 (by omega) (by omega) (by omega))
  obtain ⟨s5, e9, h5⟩ := rl_ct (B := goB B n) (T := T) (m := 1) (C := C) (Bo := B) (fun s q1 q2 q3 q4 => rl_mk h1 (B' := goB B n) rfl hW2 (hb2.cg (hF3 32 (by omega)) (fun j _ _ => by rw [hA3])) (hr2.cg ((q2 3 (by omega)).trans (hG3 3 (by omega))) ((q3 305 (by omega)).trans (by rw [hB3])) ((q3 306 (by omega)).trans (by rw [hB3]))) (hRO.cg rfl rfl (q2 1 (by omega)) (by rw [q1])) q4 (by rw [hW3, hf2.2.1, k1]) (fun p hp => gF p (by omega) (by omega) (by omega) (by omega)) (fun p hp => gA p (by omega) (by omega) (by omega)) (fun j hj => (q2 j (by omega)).trans (gG j (by omega))) (fun p hp => (q3 p (by omega)).trans (gB p (by omega) (by omega) (by omega)))) hup rfl h1.W (nI (cn (oP_ (goB B n) 0) B.1))
  rw [show (goB B n).1 = B.1 from rfl] at o0 o1 o2
  simp only [e1, e2, ob_s, e3, h1.op.2, e4, o0, hnt, x9_s0, e5, e6, o1, o2, h1.b16, e9]
  exact ⟨_, _, _, rfl, rfl, h5.rel⟩
/-- an act that was not refused is kept -/
theorem rl_dn {B B' : Bd_} {T : Nat × (Nat → Nat)} {m : Nat} {C : Lw} {χ1 χ2 s1 s2 : St} {pl u : Nat} (h1 : Rl_ B T m C χ1 s1) (hs : BC_ 40 B χ1) (hpl : pl < 15) (hu : u ≤ 15) (p1 : cF χ1 5 1 = nI pl) (p2 : cF χ1 5 2 = nI u) (p3 : cF s1 300 21 = nI u) (hro : BR 322 (34 * u) B s1) (hn : B'.1 = B.1) (hW : WB B') (hf : FC_ 32 ((cW χ1).1 + 4) χ1 χ2) (hg : FR 306 s1 s2) (hb : BC_ 32 B' χ2) (hr : BR 306 0 B' s2) (a : Int32) : ∃ χ3 s3, f_X11_doneWith χ2 a = some (a, χ3) ∧ f_X12_counted s2 a = some (a, s3) ∧ Rl_ B' T m C χ3 s3 := by
  have hv := h1.L.w
  unfold f_X11_doneWith f_X12_counted
  by_cases ha : a < 0
  · refine ⟨χ2, s2, by rw [if_pos ha], ?_, rl_bd h1 hn hW hf hg hb hr⟩
    rw [if_neg (show ¬ (0 : Int32) ≤ a from lt_le ha)]
  · obtain ⟨x3, e2, k1, k2, k3, k4, k5, k6, k7⟩ := x6_pu (b1 := 40) (χ := χ2) (Or.inr rfl) hpl hu ((hf.2.2.1 5 (by omega)) ▸ p1) ((hf.2.2.1 5 (by omega)) ▸ p2) h1.W (hs.cg (hf.2.2.1 40 (by omega)) (fun j _ _ => hf.2.2.2 _ (by omega) (by omega)))
    have gF : ∀ p, p ≠ 32 → p ≠ 5 → p ≠ 48 + 8 * pl → cF x3 p = cF χ1 p := fun p a b c => (k5 p b c).trans (hf.2.2.1 p a)
    have gA : ∀ p, p ≠ (cW χ1).1 + 4 → (p < 33 ∨ 37 < p) → (p < 49 + 8 * pl ∨ 53 + 8 * pl < p) → cA x3 p = cA χ1 p := fun p a b c => (k6 p c).trans (hf.2.2.2 p a (by omega))
    have hup : RUp B.1 B x3 s2 := ru_pp h1.U p1 p2 hpl hu k3 k4 (fun p a b c d => gF p (by omega) a b) (fun p a b c => gA p (by omega) (by omega) c) k7 (by rw [hg.1]; exact p3) (by rw [hg.1]) (hg.2.2 305 (by omega) (by omega) (by omega)) (fun i _ => by rw [hg.2.2 322 (by omega) (by omega) (by omega)]) (hro.cg (by rw [hg.1]) (hg.2.2 305 (by omega) (by omega) (by omega)) (hg.2.2 322 (by omega) (by omega) (by omega)))
    obtain ⟨s5, e9, h5⟩ := rl_ct (B := B') (T := T) (m := m) (C := C) (Bo := B) (χ := x3) (σ := s2) (fun s q1 q2 q3 q4 => rl_mk h1 (B' := B') hn hW (hb.cg (k5 32 (by omega) (by omega)) (fun j _ _ => k6 _ (by omega))) (hr.cg (q2 3 (by omega)) (q3 305 (by omega)) (q3 306 (by omega))) (h1.O.cg (gF 3 (by omega) (by omega) (by omega)) (by rw [k2, hf.1]) ((q2 1 (by omega)).trans (by rw [hg.1])) (by rw [q1, hg.2.1])) (by rw [← hn]; exact q4) (by rw [k1, hf.2.1]) (fun p hp => gF p (by omega) (by omega) (by omega)) (fun p hp => gA p (by omega) (by omega) (by omega)) (fun j hj => (q2 j (by omega)).trans (by rw [hg.1])) (fun p hp => (q3 p (by omega)).trans (hg.2.2 p (by omega) (by omega) (by omega)))) (by rw [hn]; exact hup) hn.symm h1.W a
    refine ⟨x3, s5, ?_, ?_, h5⟩
    · rw [if_neg ha, bi_nd e2]
    · rw [if_pos (nlt_le ha), bi_nd e9]
/-- acts on one oyster, on both sides -/
def OP1 (B : Bd_) (C : Lw) (χ σ : St) (r : Option (Int32 × St)) (q : Option (Int32 × St)) : Prop := ∃ (B' : Bd_) (a : Int32) (χ' σ' : St), B'.1 = B.1 ∧ WB B' ∧ r = some (a, χ') ∧ q = some (a, σ') ∧ FC_ 32 ((cW χ).1 + 4) χ χ' ∧ FR 306 σ σ' ∧ BC_ 32 B' χ' ∧ BR 306 0 B' σ'
theorem op_st {B : Bd_} {T : Nat × (Nat → Nat)} {m : Nat} {C : Lw} {χ σ : St} (h : Rl_ B T m C χ σ) (a1 a2 : Int32) : OP1 B C χ σ (f_X0_soothe χ 32 a1 a2) (f_X12_stillsTo σ a1 a2) := by
  have h8 := h.W.1
  have no : OP1 B C χ σ (some (-1, χ)) (some (-1, σ)) := ⟨B, -1, χ, σ, rfl, h.W, rfl, rfl, FC_.rf _ _ _, FR.rf _ _, h.b, h.r⟩
  unfold f_X0_soothe f_X12_stillsTo f_X12_becomes
  rcases os_ca h.W h.b h.r a1 with ⟨q1, q2⟩ | ⟨o, ho, rfl, q1, q2⟩
  · simp only [q1, q2, ob_s, c0_0]
    exact no
  simp only [q1, q2, ob_s, c1_0]
  rcases in_ca a2 0 9 (by omega) (by omega) with ⟨q3, q4⟩ | ⟨v, -, hv, rfl, q3⟩
  · rw [bi_nd (show f_X12_in a2.toInt64 (0 : Int64) (9 : Int64) = some 0 from q3), c0_0]
    by_cases hz : a2 < 0
    · rw [if_pos hz]; exact no
    · rw [if_neg hz, if_neg (show ¬ a2 ≤ (9 : Int32) from lt_le (q4.resolve_left hz))]; exact no
  rw [bi_nd (show f_X12_in (nI v).toInt64 (0 : Int64) (9 : Int64) = some 1 from q3), c1_0, if_neg (show ¬ nI v < 0 from nI_pos (by omega)), if_pos (show nI v ≤ (9 : Int32) from nI_le (b := 9) hv (by omega))]
  simp (disch := omega) only [gd_n, nI_clamp, h.b.k1 ho, h.r.k1 ho, ob_s]
  refine ⟨se_B B 1 o v, _, _, sA σ 306 o (nI v), rfl, h.W.se ⟨by omega, fun _ => hv, by omega, by omega, by omega⟩, rfl, ?_, (FC_.rf _ _ _).sA (by omega), (FR.rf _ _).sA, h.b.se (j := 1) rfl (by omega), h.r.se h.W (j := 0) (by omega) (by omega) ho (by omega)⟩
  rw [Int32.add_comm]
theorem op_ho {B : Bd_} {T : Nat × (Nat → Nat)} {m : Nat} {C : Lw} {χ σ : St} (h : Rl_ B T m C χ σ) (a1 a2 : Int32) : OP1 B C χ σ (f_X0_persuade χ 32 a1 a2) (f_X12_viewsTo σ a1 a2) := by
  have h8 := h.W.1
  have no : OP1 B C χ σ (some (-1, χ)) (some (-1, σ)) := ⟨B, -1, χ, σ, rfl, h.W, rfl, rfl, FC_.rf _ _ _, FR.rf _ _, h.b, h.r⟩
  unfold f_X0_persuade f_X12_viewsTo f_X12_becomes
  rcases os_ca h.W h.b h.r a1 with ⟨q1, q2⟩ | ⟨o, ho, rfl, q1, q2⟩
  · simp only [q1, q2, ob_s, c0_0]
    exact no
  simp only [q1, q2, ob_s, c1_0]
  rcases in_ca a2 0 15 (by omega) (by omega) with ⟨q3, q4⟩ | ⟨v, -, hv, rfl, q3⟩
  · rw [bi_nd (show f_X12_in a2.toInt64 (0 : Int64) (15 : Int64) = some 0 from q3), c0_0]
    by_cases hz : a2 < 0
    · rw [if_pos hz]; exact no
    · rw [if_neg hz, if_neg (show ¬ a2 < (16 : Int32) from le_lt (ge_of (n := 15) (m := 16) rfl (by omega) (q4.resolve_left hz)))]; exact no
  rw [bi_nd (show f_X12_in (nI v).toInt64 (0 : Int64) (15 : Int64) = some 1 from q3), c1_0, if_neg (show ¬ nI v < 0 from nI_pos (by omega)), if_pos (show nI v < (16 : Int32) from nI_lt (b := 16) (by omega) (by omega))]
  simp (disch := omega) only [li_8, nI_add, gd_n, nI_clamp, h.b.k2 ho, h.r.k2 ho, ob_s]
  refine ⟨se_B B 2 o v, _, _, sA σ 306 (8 + o) (nI v), rfl, h.W.se ⟨by omega, by omega, fun _ => by omega, by omega, by omega⟩, rfl, ?_, (FC_.rf _ _ _).sA (by omega), (FR.rf _ _).sA, h.b.se (j := 2) rfl (by omega), h.r.se h.W (j := 1) (by omega) (by omega) ho (by omega)⟩
  rw [Int32.add_comm]
theorem op_kn {B : Bd_} {T : Nat × (Nat → Nat)} {m : Nat} {C : Lw} {χ σ : St} (h : Rl_ B T m C χ σ) (a1 : Int32) : OP1 B C χ σ (f_X0_cut χ 32 a1) (f_X12_cutsOpen σ a1) := by
  have h8 := h.W.1
  have no : ∀ a, OP1 B C χ σ (some (a, χ)) (some (a, σ)) := fun a => ⟨B, a, χ, σ, rfl, h.W, rfl, rfl, FC_.rf _ _ _, FR.rf _ _, h.b, h.r⟩
  unfold f_X0_cut f_X12_cutsOpen
  rcases os_ca h.W h.b h.r a1 with ⟨q1, q2⟩ | ⟨o, ho, rfl, q1, q2⟩
  · simp only [q1, q2, ob_s, c0_0]
    exact no _
  simp only [q1, q2, ob_s, c1_0]
  have b3 := h.W.b3 ho
  by_cases hz : B.2.1 3 o = 0
  · simp (disch := omega) only [li_0, li_16, nI_add, gd_n, nI_clamp, h.b.k3 ho, h.r.k3 ho, c_eqT, if_true]
    exact no _
  · simp (disch := omega) only [li_0, li_16, li_24, nI_add, gd_n, nI_clamp, h.b.k3 ho, h.r.k3 ho, c_eqF, rAj, h.b.k4 ho, h.r.k4 ho]
    refine ⟨se_B (se_B B 3 o 0) 4 o 0, _, _, _, rfl, (h.W.se ⟨by omega, by omega, by omega, by omega, by omega⟩).se ⟨by omega, by omega, by omega, by omega, by omega⟩, rfl, rfl, ((FC_.rf _ _ _).sA (by omega)).sA (by omega), (FR.rf _ _).sA.sA, (h.b.se (j := 3) rfl (by omega)).se (j := 4) rfl (by omega), (h.r.se h.W (j := 2) (by omega) (by omega) ho (by omega)).se (h.W.se ⟨by omega, by omega, by omega, by omega, by omega⟩) (j := 3) (by omega) (by omega) ho (by omega)⟩
/-- the start of an act on one: the spare bed, the row put by -/
theorem rl_s0 {B : Bd_} {T : Nat × (Nat → Nat)} {m : Nat} {C : Lw} {χ σ : St} (h : Rl_ B T m C χ σ) : ∃ pl u χ1 s1, pl < 15 ∧ u ≤ 15 ∧ f_X0_copyFrom χ 40 32 = some χ1 ∧ f_X12_putsBy σ = some s1 ∧ Rl_ B T m C χ1 s1 ∧ BC_ 40 B χ1 ∧ cF χ1 5 1 = nI pl ∧ cF χ1 5 2 = nI u ∧ cF s1 300 21 = nI u ∧ BR 322 (34 * u) B s1 := by
  obtain ⟨χ1, e1, hf, hb⟩ := x0_cb (b := 40) (b1 := 32) (w := (cW χ).1 + 4) (by omega) h.W h.b
  have h1 := h.sc (sc_FC h.L rfl hf) (SR.rf _)
  obtain ⟨pl, u, s1, hpl, hu, p1, p2, p3, e2, h2, hro⟩ := rl_pb h1
  exact ⟨pl, u, χ1, s1, hpl, hu, e1, e2, h2, hb, p1, p2, p3, hro⟩
theorem y_8 (χ σ : St) (a1 a2 : Int32) (h : Rel_ χ σ) : ∃ (v : Int32) (χ1 : St) (σ1 : St), f_X11_stills χ a1 a2 = some (v, χ1) ∧ f_X12_stills σ a1 a2 = some (v, σ1) ∧ Rel_ χ1 σ1 := by
  obtain ⟨B, T, m, C, h⟩ := h
  have h0 := h.th
  unfold f_X11_stills f_X12_stills
  obtain ⟨pl, u, χ1, s1, hpl, hu, e1, e2, h2, hb, p1, p2, p3, hro⟩ := rl_s0 h0
  obtain ⟨B', a, χ', σ', k1, k2, k3, k4, k5, k6, k7, k8⟩ := op_st h2 a1 a2
  obtain ⟨χ3, s3, e3, e4, h3⟩ := rl_dn h2 hb hpl hu p1 p2 p3 hro k1 k2 k5 k6 k7 k8 a
  simp only [e1, e2, ob_s, k3, k4, e3, e4]
  exact ⟨_, _, _, rfl, rfl, h3.rel⟩
theorem y_9 (χ σ : St) (a1 a2 : Int32) (h : Rel_ χ σ) : ∃ (v : Int32) (χ1 : St) (σ1 : St), f_X11_holds χ a1 a2 = some (v, χ1) ∧ f_X12_holds σ a1 a2 = some (v, σ1) ∧ Rel_ χ1 σ1 := by
  obtain ⟨B, T, m, C, h⟩ := h
  have h0 := h.th
  unfold f_X11_holds f_X12_holds
  obtain ⟨pl, u, χ1, s1, hpl, hu, e1, e2, h2, hb, p1, p2, p3, hro⟩ := rl_s0 h0
  obtain ⟨B', a, χ', σ', k1, k2, k3, k4, k5, k6, k7, k8⟩ := op_ho h2 a1 a2
  obtain ⟨χ3, s3, e3, e4, h3⟩ := rl_dn h2 hb hpl hu p1 p2 p3 hro k1 k2 k5 k6 k7 k8 a
  simp only [e1, e2, ob_s, k3, k4, e3, e4]
  exact ⟨_, _, _, rfl, rfl, h3.rel⟩
theorem y_10 (χ σ : St) (a1 : Int32) (h : Rel_ χ σ) : ∃ (v : Int32) (χ1 : St) (σ1 : St), f_X11_knife χ a1 = some (v, χ1) ∧ f_X12_knife σ a1 = some (v, σ1) ∧ Rel_ χ1 σ1 := by
  obtain ⟨B, T, m, C, h⟩ := h
  have h0 := h.th
  unfold f_X11_knife f_X12_knife
  obtain ⟨pl, u, χ1, s1, hpl, hu, e1, e2, h2, hb, p1, p2, p3, hro⟩ := rl_s0 h0
  obtain ⟨B', a, χ', σ', k1, k2, k3, k4, k5, k6, k7, k8⟩ := op_kn h2 a1
  obtain ⟨χ3, s3, e3, e4, h3⟩ := rl_dn h2 hb hpl hu p1 p2 p3 hro k1 k2 k5 k6 k7 k8 a
  simp only [e1, e2, ob_s, k3, k4, e3, e4]
  exact ⟨_, _, _, rfl, rfl, h3.rel⟩
theorem y_12 (χ σ : St) (h : Rel_ χ σ) : ∃ (v : Int32) (χ1 : St) (σ1 : St), f_X11_undo χ = some (v, χ1) ∧ f_X12_undo σ = some (v, σ1) ∧ Rel_ χ1 σ1 := by
  obtain ⟨B, T, m, C, h⟩ := h
  have h0 := h.th
  have h8 := h.W.1
  unfold f_X11_undo f_X12_undo f_X6_pop
  generalize sF σ 300 0 (0 : Int32) = σ0 at h0 ⊢
  obtain ⟨pl, u, a, b, c, d, e, f⟩ := h0.U
  rw [c, d, e]
  by_cases hu : u = 0
  · subst hu
    rw [if_pos (show nI 0 = 0 from rfl), if_pos (show nI 0 = 0 from rfl)]
    exact ⟨_, _, _, rfl, rfl, h0.rel⟩
  rw [if_neg (show ¬ nI u = 0 from nI_ne0 (by omega) (by omega)), if_neg (show ¬ nI u = 0 from nI_ne0 (by omega) (by omega))]
  obtain ⟨B', k1, k2, k3, k4⟩ := f 0 (by omega)
  rw [Nat.sub_zero] at k3 k4
  have hm : (pl + 14) % 15 < 15 := Nat.mod_lt _ (by omega)
  have hpl : nI pl + (15 : Int32) - (1 : Int32) - (nI pl + (15 : Int32) - (1 : Int32)) / (15 : Int32) * (15 : Int32) = nI ((pl + 14) % 15) := by
    rw [show (15 : Int32) = nI 15 from rfl, show (1 : Int32) = nI 1 from rfl, nI_add, pk_sub (by omega), show pl + 15 - 1 = pl + 14 by omega, pk_rem (by omega) (by omega) (by omega)]
  have hu1 : nI u - (1 : Int32) = nI (u - 1) := by rw [show (1 : Int32) = nI 1 from rfl, pk_sub (by omega)]
  rw [hpl, hu1]
  have g0 : cF (sF χ 5 1 (nI ((pl + 14) % 15))) 5 2 = nI u := by rw [rFj (by omega)]; exact d
  rw [g0, hu1]
  have g1 : cF (sF (sF χ 5 1 (nI ((pl + 14) % 15))) 5 2 (nI (u - 1))) 5 1 = nI ((pl + 14) % 15) := by rw [rFj (by omega), rFs]
  rw [g1, gd_n hm (by omega), nI_clamp (by omega), bt_6]
  obtain ⟨x, e1, hf, hb⟩ := x0_cb (b := 32) (b1 := 48 + 8 * ((pl + 14) % 15)) (w := (cW χ).1 + 4) (χ := sF (sF χ 5 1 (nI ((pl + 14) % 15))) 5 2 (nI (u - 1))) (by omega) k2 (k3.cg ((rFp (by omega)).trans (rFp (by omega))) (fun j _ _ => rfl))
  obtain ⟨s, e2, r1, r2, r3, r4, r5, r6⟩ := it_row (step := fun z : Int32 × St => f_X12_undo_s26 z.2 z.1) (σ := sF σ0 300 21 (nI (u - 1))) (p := 306) (o := 0) (N := 34) (f := fun k => cA σ0 322 (34 * (u - 1) + k)) (by omega)
    (fun k s hk q1 q2 q3 q4 q5 => by
      have g21 : cF s 300 21 = nI (u - 1) := by rw [q1]; exact rFs
      have g322 : cA s 322 = cA σ0 322 := q4 322 (by omega)
      show f_X12_undo_s26 s (nI k) = _
      unfold f_X12_undo_s26
      simp (disch := omega) only [li_1, li_34, c_leF, gd_n, nI_clamp, nI_add, g21, g322, pk_mul, Nat.zero_add])
    (fun s q1 => by
      show f_X12_undo_s26 s (nI 34) = _
      unfold f_X12_undo_s26
      simp (disch := omega) only [li_34, c_leT])
  have hr : BR 306 0 B' s := k4.mv k2 (by rw [r1]; exact rFj (by omega)) (r4 305 (by omega)) (fun i hi => r5 i hi)
  have gF : ∀ p, p ≠ 32 → p ≠ 5 → cF x p = cF χ p := fun p q1 q2 => (hf.2.2.1 p q1).trans ((rFp q2).trans (rFp q2))
  have gA : ∀ p, p ≠ (cW χ).1 + 4 → (p < 33 ∨ 37 < p) → cA x p = cA χ p := fun p q1 q2 => hf.2.2.2 p q1 (by omega)
  have gG : ∀ j, j ≠ 21 → cF s 300 j = cF σ0 300 j := fun j hj => by rw [r1]; exact rFj hj
  have hv := h0.L.w
  have hU : RU B.1 x s := by
    refine ⟨(pl + 14) % 15, u - 1, hm, by omega, ?_, ?_, by rw [r1]; exact rFs, fun j hj => ?_⟩
    · rw [hf.2.2.1 5 (by omega)]; exact g1
    · rw [hf.2.2.1 5 (by omega)]; exact rFs
    · obtain ⟨B2, m1, m2, m3, m4⟩ := f (j + 1) (by omega)
      have hm2 : ((pl + 14) % 15 + 14 - j) % 15 = (pl + 14 - (j + 1)) % 15 := by omega
      have hm3 : (pl + 14 - (j + 1)) % 15 < 15 := Nat.mod_lt _ (by omega)
      refine ⟨B2, m1, m2, ?_, ?_⟩
      · rw [hm2]; exact m3.cg (gF _ (by omega) (by omega)) (fun i _ _ => gA _ (by omega) (by omega))
      · rw [show u - 1 - 1 - j = u - 1 - (j + 1) by omega]
        exact m4.cg (gG 3 (by omega)) (r4 305 (by omega)) (r4 322 (by omega))
  have hR : Rl_ B' T m C x s := rl_mk h0 k1 k2 hb hr (h0.O.cg (gF 3 (by omega) (by omega)) (by rw [hf.1]; rfl) (gG 1 (by omega)) (by rw [r2]; rfl)) hU hf.2.1 (fun p hp => gF p (by omega) (by omega)) (fun p hp => gA p (by omega) (by omega)) (fun j hj => gG j (by omega)) (fun p hp => r4 p (by omega))
  rw [bi_nd e1, bi_nd e2, ob_s]
  refine ⟨nI (u - 1), x, s, ?_, ?_, hR.rel⟩
  · rw [if_neg (show ¬ (1 : Int32) = 0 by decide), hf.2.2.1 5 (by omega), rFs]
  · rw [r1, rFs]
theorem rk_up {n ch i : Nat} {χ χ' σ σ' : St} (h : RKi n ch i χ σ) (hF : ∀ p, 168 + 8 * i ≤ p → p < 176 + 8 * i → cF χ' p = cF χ p) (hA : ∀ p, 168 + 8 * i ≤ p → p < 176 + 8 * i → cA χ' p = cA χ p) (h3 : cF σ' 300 3 = cF σ 300 3) (h4 : cA σ' 305 = cA σ 305) (h6 : cA σ' 339 i = cA σ 339 i) (h7 : ∀ j, 34 * i ≤ j → j < 34 * i + 34 → cA σ' 340 j = cA σ 340 j) : RKi n ch i χ' σ' := by
  obtain ⟨s, kc, d1, d2, d3, d4, d5, d6⟩ := h
  refine ⟨s, kc, d1, d2, by rw [hF _ (by omega) (by omega)]; exact d3, by rw [h6]; exact d4, d5, fun e => ?_⟩
  obtain ⟨B, g1, g2, g3, g4⟩ := d6 e
  exact ⟨B, g1, g2, g3.cg (hF _ (by omega) (by omega)) (fun j _ _ => hA _ (by omega) (by omega)), g4.ci g2.1 h3 h4 (fun j hj => h7 _ (by omega) (by omega))⟩
/-- put together with other keeps -/
theorem rl_mK {B : Bd_} {T : Nat × (Nat → Nat)} {m : Nat} {C : Lw} {χ χ' σ σ' : St} (h : Rl_ B T m C χ σ) (hK : RK B.1 χ' σ') (w1 : cW χ' = cW χ) (w2 : cL χ' = cL χ) (f3 : ∀ p, p < 168 → cF χ' p = cF χ p) (f4 : ∀ p, p < 168 → p ≠ 8 → p ≠ (cW χ).1 + 4 → cA χ' p = cA χ p) (g1 : cF σ' = cF σ) (g2 : cL σ' = cL σ) (g3 : ∀ p, p ≠ 338 → p ≠ 339 → p ≠ 340 → cA σ' p = cA σ p) : Rl_ B T m C χ' σ' := by
  have hw := h.L.w
  have gA : ∀ p, p < 338 → cA σ' p = cA σ p := fun p hp => g3 p (by omega) (by omega) (by omega)
  refine ⟨h.W, h.b.cg (f3 32 (by omega)) (fun j _ _ => f4 _ (by omega) (by omega) (by omega)), h.r.cg (by rw [g1]) (gA 305 (by omega)) (gA 306 (by omega)), h.tx.cg (f3 1 (by omega)) (f4 2 (by omega) (by omega) (by omega)) (by rw [g1]) (gA 308 (by omega)), h.O.cg (f3 3 (by omega)) (by rw [w2]) (by rw [g1]) (by rw [g2]), ?_, hK, ?_, ?_, ?_⟩
  · obtain ⟨pl, u, a, b, c, d, e, f⟩ := h.U
    refine ⟨pl, u, a, b, by rw [f3 5 (by omega)]; exact c, by rw [f3 5 (by omega)]; exact d, by rw [g1]; exact e, fun j hj => ?_⟩
    obtain ⟨B2, k1, k2, k3, k4⟩ := f j hj
    have hm : (pl + 14 - j) % 15 < 15 := Nat.mod_lt _ (by omega)
    exact ⟨B2, k1, k2, k3.cg (f3 _ (by omega)) (fun i _ _ => f4 _ (by omega) (by omega) (by omega)), k4.cg (by rw [g1]) (gA 305 (by omega)) (gA 322 (by omega))⟩
  · exact h.S.cg (f3 9 (by omega)) (f4 10 (by omega) (by omega) (by omega)) (f4 11 (by omega) (by omega) (by omega)) (f4 12 (by omega) (by omega) (by omega)) (by rw [g1]) (gA 328 (by omega)) (gA 329 (by omega))
  · exact h.H.cg (f3 13 (by omega)) (f4 14 (by omega) (by omega) (by omega)) (f4 15 (by omega) (by omega) (by omega)) (by rw [g1]) (gA 332 (by omega)) (gA 333 (by omega))
  · exact h.L.cg w1 (f3 _ (by omega)) (f4 _ (by omega) (by omega) (by omega)) (by rw [g1]) (gA 315 (by omega))
theorem y_48 (χ σ : St) (a1 : Int32) (h : Rel_ χ σ) : ∃ (v : Int32) (χ1 : St) (σ1 : St), f_X11_keep χ a1 = some (v, χ1) ∧ f_X12_keep σ a1 = some (v, σ1) ∧ Rel_ χ1 σ1 := by
  obtain ⟨B, T, m, C, h⟩ := h
  have h0 := h.th
  have h8 := h.W.1
  unfold f_X11_keep f_X12_keep f_X6_store
  generalize sF σ 300 0 (0 : Int32) = σ0 at h0 ⊢
  rcases in_ca a1 0 2 (by omega) (by omega) with ⟨q1, q2⟩ | ⟨i, -, hi, rfl, q1⟩
  · refine ⟨0, χ, σ0, ?_, ?_, h0.rel⟩
    · by_cases hz : a1 < 0
      · rw [if_pos hz, ob_s]; exact gd_t nb_0
      · rw [if_neg hz, if_neg (show ¬ a1 < (3 : Int32) from le_lt (ge_of (n := 2) (m := 3) rfl (by omega) (q2.resolve_left hz))), ob_s]; exact gd_t nb_0
    · rw [bi_nd (show f_X12_in a1.toInt64 (0 : Int64) (2 : Int64) = some 0 from q1)]; rfl
  rw [bi_nd (show f_X12_in (nI i).toInt64 (0 : Int64) (2 : Int64) = some 1 from q1), c1_0, if_neg (show ¬ nI i < 0 from nI_pos (by omega)), if_pos (show nI i < (3 : Int32) from nI_lt (b := 3) (by omega) (by omega))]
  simp (disch := omega) only [gd_n, nI_clamp, vb_1, bt_7]
  obtain ⟨x, e1, hf, hb⟩ := x0_cb (b := 168 + 8 * i) (b1 := 32) (w := (cW χ).1 + 4) (by omega) h0.W h0.b
  obtain ⟨ch, c1, c2, c3⟩ := h0.K
  have hc4 : cF (sA σ0 338 i (1 : Int32)) 300 4 = nI ch := c2
  rw [hc4]
  obtain ⟨s, e2, r1, r2, r3, r4, r5, r6⟩ := it_row (step := fun z : Int32 × St => f_X12_keep_s38 z.2 (nI i) z.1) (σ := sA (sA σ0 338 i (1 : Int32)) 339 i (nI ch)) (p := 340) (o := 34 * i) (N := 34) (f := fun k => cA σ0 306 k) (by omega)
    (fun k s hk q1 q2 q3 q4 q5 => by
      have g306 : cA s 306 = cA σ0 306 := (q4 306 (by omega)).trans ((rAp (by omega)).trans (rAp (by omega)))
      show f_X12_keep_s38 s (nI i) (nI k) = _
      unfold f_X12_keep_s38
      simp (disch := omega) only [li_1, li_34, c_leF, gd_n, nI_clamp, nI_add, g306, pk_mul])
    (fun s q1 => by
      show f_X12_keep_s38 s (nI i) (nI 34) = _
      unfold f_X12_keep_s38
      simp (disch := omega) only [li_34, c_leT])
  have hv := h0.L.w
  have g1 : cF s = cF σ0 := r1
  have g3 : ∀ p, p ≠ 338 → p ≠ 339 → p ≠ 340 → cA s p = cA σ0 p := fun p a b c => (r4 p c).trans ((rAp b).trans (rAp a))
  have g338 : cA s 338 = cA (sA σ0 338 i (1 : Int32)) 338 := (r4 338 (by omega)).trans (rAp (by omega))
  have g339 : cA s 339 = cA (sA (sA σ0 338 i (1 : Int32)) 339 i (nI ch)) 339 := r4 339 (by omega)
  have gx8 : cA x 8 = cA χ 8 := hf.2.2.2 8 (by omega) (by omega)
  have hr : BR 340 (34 * i) B s := h0.r.mv h0.W (by rw [g1]) (g3 305 (by omega) (by omega) (by omega)) (fun j hj => by rw [Nat.zero_add]; exact r5 j hj)
  have hR : Rl_ B T m C (sA x 8 i (1 : Int32)) s := by
    refine rl_mK h0 ⟨ch, c1, by rw [g1]; exact c2, fun j hj => ?_⟩ hf.2.1 hf.1 (fun p hp => hf.2.2.1 p (by omega)) (fun p hp a b => (rAp a).trans (hf.2.2.2 p b (by omega))) g1 r2 g3
    by_cases e : j = i
    · subst e
      refine Or.inr ⟨rAs, by rw [g338]; exact rAs, B.1, ch, Nat.le_refl _, Nat.le_refl _, hb.1, by rw [g339]; exact rAs, ⟨fun _ => rfl, fun _ => rfl⟩, fun _ => ⟨B, rfl, h0.W, hb.cg rfl (fun k _ _ => rAp (by omega)), hr⟩⟩
    · have q8 : cA (sA x 8 i (1 : Int32)) 8 j = cA χ 8 j := by rw [rAj e, gx8]
      have q338 : cA s 338 j = cA σ0 338 j := by rw [g338, rAj e]
      rw [q8, q338]
      rcases c3 j hj with q | ⟨z1, z2, z3⟩
      · exact Or.inl q
      · refine Or.inr ⟨z1, z2, rk_up z3 (fun p a b => hf.2.2.1 p (by omega)) (fun p a b => (rAp (by omega)).trans (hf.2.2.2 p (by omega) (by omega))) (by rw [g1]) (g3 305 (by omega) (by omega) (by omega)) ?_ (fun k a b => ?_)⟩
        · rw [g339, rAj e, rAp (by omega)]
        · rw [r6 k (by omega), rAp (by omega), rAp (by omega)]
  rw [bi_nd e1, bi_nd e2, ob_s]
  exact ⟨_, _, _, gd_t nb_1, rfl, hR.rel⟩
theorem y_49 (χ σ : St) (a1 : Int32) (h : Rel_ χ σ) : ∃ (v : Int32) (χ1 : St) (σ1 : St), f_X11_again χ a1 = some (v, χ1) ∧ f_X12_again σ a1 = some (v, σ1) ∧ Rel_ χ1 σ1 := by
  obtain ⟨B, T, m, C, h⟩ := h
  have h0 := h.th
  have h8 := h.W.1
  unfold f_X11_again f_X12_again f_X6_fetch f_X6_clear
  generalize sF σ 300 0 (0 : Int32) = σ0 at h0 ⊢
  have no : gd (nb (0 : Int32)) (some ((0 : Int32), χ)) = some ((0 : Int32), χ) := gd_t nb_0
  rcases in_ca a1 0 2 (by omega) (by omega) with ⟨q1, q2⟩ | ⟨i, -, hi, rfl, q1⟩
  · refine ⟨0, χ, σ0, ?_, ?_, h0.rel⟩
    · by_cases hz : a1 < 0
      · rw [if_pos hz, ob_s]; exact no
      · rw [if_neg hz, if_pos (show (3 : Int32) ≤ a1 from ge_of (n := 2) (m := 3) rfl (by omega) (q2.resolve_left hz)), ob_s]; exact no
    · rw [bi_nd (show f_X12_in a1.toInt64 (0 : Int64) (2 : Int64) = some 0 from q1)]; rfl
  rw [bi_nd (show f_X12_in (nI i).toInt64 (0 : Int64) (2 : Int64) = some 1 from q1), c1_0, if_neg (show ¬ nI i < 0 from nI_pos (by omega)), if_neg (show ¬ (3 : Int32) ≤ nI i from nI_ge (b := 3) (by omega) (by omega))]
  obtain ⟨ch, c1, c2, c3⟩ := h0.K
  simp (disch := omega) only [gd_n, nI_clamp, bt_7]
  rcases c3 i (by omega) with ⟨z1, z2⟩ | ⟨z1, z2, s, kc, d1, d2, d3, d4, d5, d6⟩
  · rw [z1, z2, if_pos rfl, if_pos rfl, ob_s]
    exact ⟨_, _, _, no, rfl, h0.rel⟩
  rw [z1, z2, if_neg (show ¬ (1 : Int32) = 0 by decide), if_neg (show ¬ (1 : Int32) = 0 by decide), d3, d4, c2, h0.b.n]
  by_cases hs : s = B.1
  · have hk := d5.mp hs
    subst hk
    subst hs
    rw [if_pos rfl, if_pos rfl]
    obtain ⟨B', k1, k2, k3, k4⟩ := d6 rfl
    obtain ⟨x, e1, hf, hb⟩ := x0_cb (b := 32) (b1 := 168 + 8 * i) (w := (cW χ).1 + 4) (χ := χ) (by omega) k2 k3
    obtain ⟨s2, e2, r1, r2, r3, r4, r5, r6⟩ := it_row (step := fun z : Int32 × St => f_X12_again_s43 z.2 (nI i) z.1) (σ := σ0) (p := 306) (o := 0) (N := 34) (f := fun k => cA σ0 340 (34 * i + k)) (by omega)
      (fun k s hk q1 q2 q3 q4 q5 => by
        have g340 : cA s 340 = cA σ0 340 := q4 340 (by omega)
        show f_X12_again_s43 s (nI i) (nI k) = _
        unfold f_X12_again_s43
        simp (disch := omega) only [li_1, li_34, c_leF, gd_n, nI_clamp, nI_add, g340, pk_mul, Nat.zero_add])
      (fun s q1 => by
        show f_X12_again_s43 s (nI i) (nI 34) = _
        unfold f_X12_again_s43
        simp (disch := omega) only [li_34, c_leT])
    have hv := h0.L.w
    have gF : ∀ p, p ≠ 32 → p ≠ 5 → cF (sF x 5 2 0) p = cF χ p := fun p q1 q2 => (rFp q2).trans (hf.2.2.1 p q1)
    have gA : ∀ p, p ≠ (cW χ).1 + 4 → (p < 33 ∨ 37 < p) → cA (sF x 5 2 0) p = cA χ p := fun p q1 q2 => hf.2.2.2 p q1 (by omega)
    have gG : ∀ j, j ≠ 21 → cF (sF s2 300 21 0) 300 j = cF σ0 300 j := fun j hj => (rFj hj).trans (by rw [r1])
    obtain ⟨pl, u, a, b, c, d, e, f⟩ := h0.U
    have hR : Rl_ B' T m C (sF x 5 2 0) (sF s2 300 21 0) := rl_mk h0 k1 k2 (hb.cg (rFp (by omega)) (fun j _ _ => rfl)) (k4.mv k2 ((rFj (by omega)).trans (by rw [r1])) (r4 305 (by omega)) (fun j hj => r5 j hj)) (h0.O.cg (gF 3 (by omega) (by omega)) (by rw [rLF, hf.1]) (gG 1 (by omega)) (by rw [rLF, r2])) ⟨pl, 0, a, by omega, by rw [rFj (by omega), hf.2.2.1 5 (by omega)]; exact c, rFs, rFs, fun j hj => absurd hj (Nat.not_lt_zero _)⟩ hf.2.1 (fun p hp => gF p (by omega) (by omega)) (fun p hp => gA p (by omega) (by omega)) (fun j hj => gG j (by omega)) (fun p hp => r4 p (by omega))
    rw [bi_nd e1, bi_nd e2, ob_s, ob_s]
    exact ⟨_, _, _, gd_t nb_1, rfl, hR.rel⟩
  · have hk : kc ≠ ch := fun q => hs (d5.mpr q)
    rw [if_neg (fun q => hs ((nI_eq (by omega) (by omega)).mp q)), if_neg (fun q => hk ((nI_eq (by omega) (by omega)).mp q)), ob_s]
    exact ⟨_, _, _, no, rfl, h0.rel⟩
