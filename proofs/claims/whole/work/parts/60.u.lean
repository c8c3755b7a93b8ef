/-! LAYER 2: a season read whole; one act of it done. -/
theorem ip_ge (f : Nat → Nat) : ∀ j, j ≤ ip f j := by
  intro j
  induction j with
  | zero => exact Nat.zero_le _
  | succ j ih => show j + 1 ≤ ip f j + (1 + kd (f (ip f j))); omega
def EL_ (σ s : St) : Prop := cL s = cL σ ∧ (∀ j, j ≠ 10 → j ≠ 26 → cF s 300 j = cF σ 300 j) ∧ ∀ q, q ≠ 323 → q ≠ 324 → q ≠ 325 → cA s q = cA σ q
theorem EL_.rf (σ : St) : EL_ σ σ := ⟨rfl, fun _ _ _ => rfl, fun _ _ _ _ => rfl⟩
theorem EL_.ea {c : Nat} {a b d : St} (h : EL_ a b) (k : EA_ c b d) : EL_ a d := ⟨k.1.trans h.1, fun j x y => (k.2.1 j x y).trans (h.2.1 j x y), fun q x y z => by
  rw [← h.2.2 q x y z]
  funext i
  exact k.2.2 q i (Or.inl ⟨x, y, z⟩)⟩
def IT (f : Nat → Nat) (j : Nat) (s : St) : Prop := cA s 323 j = nI (kq (f (ip f j))) ∧ cA s 324 j = nI (f (ip f j + 1) - 48) ∧ (2 ≤ kd (f (ip f j)) → cA s 325 j = nI (n2_ f (ip f j)))
theorem x12_rs {f : Nat → Nat} {L m : Nat} {s : St} {y1 : Int32} (h : RA_ f L 0 s) (hL : L ≤ 60) (hn : cF s 300 26 = nI 0) (hm0 : m ≤ L) (hg : ∀ j, j < m → ip f j < L ∧ fo f L (ip f j) = 0) (hm : ip f m = L ∨ (ip f m < L ∧ fo f L (ip f m) ≠ 0)) : ∃ x, iter (fun z : Int32 × St => f_X12_season_s19 z.2 y1 z.1) FU ((1 : Int32), s) = some x ∧ EL_ s x.2 ∧ ((ip f m = L ∧ x.1 = nI 1 ∧ cF x.2 300 10 = nI L ∧ cF x.2 300 26 = nI m ∧ ∀ j, j < m → IT f j x.2) ∨ (ip f m ≠ L ∧ x.1 = nI 0 ∧ cF x.2 300 10 = nI (ip f m + (fo f L (ip f m) - 1)))) := by
  refine it_inx (s := ((1 : Int32), s)) (fun (k : Nat) (z : Int32 × St) => EL_ s z.2 ∧ ((k ≤ m ∧ z.1 = nI 1 ∧ RA_ f L (ip f k) z.2 ∧ cF z.2 300 26 = nI k ∧ ∀ j, j < k → IT f j z.2) ∨ (k = m + 1 ∧ ip f m ≠ L ∧ z.1 = nI 0 ∧ cF z.2 300 10 = nI (ip f m + (fo f L (ip f m) - 1))))) _ (m + 1) (by omega) ⟨EL_.rf s, Or.inl ⟨Nat.zero_le _, rfl, h, hn, fun j hj => absurd hj (Nat.not_lt_zero _)⟩⟩ (fun k z hk hI => ?_)
  obtain ⟨z1, t⟩ := z
  obtain ⟨hE, ⟨k1, rfl, hA, k3, k4⟩ | ⟨k1, k2, rfl, k3⟩⟩ := hI
  · dsimp only at hE hA k3 k4
    show (_ ∧ ∃ s', f_X12_season_s19 t y1 (nI 1) = some (.inl s') ∧ _) ∨ ∃ x, f_X12_season_s19 t y1 (nI 1) = some (.inr x) ∧ _
    unfold f_X12_season_s19
    rw [if_neg (show ¬ nI 1 = 0 by decide), hA.2.1, hA.2.2.1]
    have hle := hA.2.2.2.1
    by_cases q : ip f k = L
    · have e : k = m := by
        rcases Nat.lt_or_ge k m with x | x
        · have := (hg k x).1; omega
        · omega
      right
      rw [if_pos (nI_le (by omega) (by omega))]
      refine ⟨_, rfl, hE, Or.inl ?_⟩
      rw [e] at q k3 k4 hA
      exact ⟨q, rfl, by rw [← q]; exact hA.2.2.1, k3, k4⟩
    · have hk60 := ip_ge f k
      obtain ⟨t1, ⟨v, r1, r2, r3⟩, r4⟩ := x12_ra hA (by omega) (show k < 60 by omega) k3
      left
      rw [if_neg (nI_ge (by omega) (by omega)), bi_nd r1]
      refine ⟨by omega, _, rfl, hE.ea r2, ?_⟩
      dsimp only
      rcases r3 with ⟨g1, g2, g3, g4, g5, g6⟩ | ⟨g1, g2, g3⟩
      · have hkm : k < m := by
          rcases Nat.lt_or_ge k m with x | x
          · exact x
          · have e : k = m := by omega
            rw [e] at q g1
            rcases hm with y | y
            · exact absurd y q
            · exact absurd g1 y.2
        refine Or.inl ⟨by omega, by rw [g2], hA.ea r2 (fo_l g1) g3, r4, fun j hj => ?_⟩
        by_cases e : j = k
        · subst e
          exact ⟨g4, g5, g6⟩
        · obtain ⟨i1, i2, i3⟩ := k4 j (by omega)
          exact ⟨(r2.2.2 323 j (Or.inr e)).trans i1, (r2.2.2 324 j (Or.inr e)).trans i2, fun x => (r2.2.2 325 j (Or.inr e)).trans (i3 x)⟩
      · have e : k = m := by
          rcases Nat.lt_or_ge k m with x | x
          · exact absurd (hg k x).2 g1
          · omega
        rw [e] at q g3
        exact Or.inr ⟨by omega, q, by rw [g2], g3⟩
  · dsimp only at hE k3
    right
    show ∃ x, f_X12_season_s19 t y1 (nI 0) = some (.inr x) ∧ _
    unfold f_X12_season_s19
    rw [if_pos (show nI 0 = 0 from rfl)]
    exact ⟨_, rfl, hE, Or.inr ⟨k2, rfl, k3⟩⟩
theorem op_st2 {B : Bd_} (C : Lw) {χ σ : St} (hW : WB B) (hb : BC_ 32 B χ) (hr : BR 306 0 B σ) (a1 a2 : Int32) : OP1 B C χ σ (f_X0_soothe χ 32 a1 a2) (f_X12_stillsTo σ a1 a2) := by
  have h8 := hW.1
  have no : OP1 B C χ σ (some (-1, χ)) (some (-1, σ)) := ⟨B, -1, χ, σ, rfl, hW, rfl, rfl, FC_.rf _ _ _, FR.rf _ _, hb, hr⟩
  unfold f_X0_soothe f_X12_stillsTo f_X12_becomes
  rcases os_ca hW hb hr a1 with ⟨q1, q2⟩ | ⟨o, ho, rfl, q1, q2⟩
  · simp only [q1, q2, ob_s, c0_0]
    exact no
  simp only [q1, q2, ob_s, c1_0]
  rcases in_ca a2 0 9 (by omega) (by omega) with ⟨q3, q4⟩ | ⟨v, -, hv, rfl, q3⟩
  · rw [bi_nd (show f_X12_in a2.toInt64 (0 : Int64) (9 : Int64) = some 0 from q3), c0_0]
    by_cases hz : a2 < 0
    · rw [if_pos hz]; exact no
    · rw [if_neg hz, if_neg (show ¬ a2 ≤ (9 : Int32) from lt_le (q4.resolve_left hz))]; exact no
  rw [bi_nd (show f_X12_in (nI v).toInt64 (0 : Int64) (9 : Int64) = some 1 from q3), c1_0, if_neg (show ¬ nI v < 0 from nI_pos (by omega)), if_pos (show nI v ≤ (9 : Int32) from nI_le (b := 9) hv (by omega))]
  simp (disch := omega) only [gd_n, nI_clamp, hb.k1 ho, hr.k1 ho, ob_s]
  refine ⟨se_B B 1 o v, _, _, sA σ 306 o (nI v), rfl, hW.se ⟨by omega, fun _ => hv, by omega, by omega, by omega⟩, rfl, ?_, (FC_.rf _ _ _).sA (by omega), (FR.rf _ _).sA, hb.se (j := 1) rfl (by omega), hr.se hW (j := 0) (by omega) (by omega) ho (by omega)⟩
  rw [Int32.add_comm]
theorem op_ho2 {B : Bd_} (C : Lw) {χ σ : St} (hW : WB B) (hb : BC_ 32 B χ) (hr : BR 306 0 B σ) (a1 a2 : Int32) : OP1 B C χ σ (f_X0_persuade χ 32 a1 a2) (f_X12_viewsTo σ a1 a2) := by
  have h8 := hW.1
  have no : OP1 B C χ σ (some (-1, χ)) (some (-1, σ)) := ⟨B, -1, χ, σ, rfl, hW, rfl, rfl, FC_.rf _ _ _, FR.rf _ _, hb, hr⟩
  unfold f_X0_persuade f_X12_viewsTo f_X12_becomes
  rcases os_ca hW hb hr a1 with ⟨q1, q2⟩ | ⟨o, ho, rfl, q1, q2⟩
  · simp only [q1, q2, ob_s, c0_0]
    exact no
  simp only [q1, q2, ob_s, c1_0]
  rcases in_ca a2 0 15 (by omega) (by omega) with ⟨q3, q4⟩ | ⟨v, -, hv, rfl, q3⟩
  · rw [bi_nd (show f_X12_in a2.toInt64 (0 : Int64) (15 : Int64) = some 0 from q3), c0_0]
    by_cases hz : a2 < 0
    · rw [if_pos hz]; exact no
    · rw [if_neg hz, if_neg (show ¬ a2 < (16 : Int32) from le_lt (ge_of (n := 15) (m := 16) rfl (by omega) (q4.resolve_left hz)))]; exact no
  rw [bi_nd (show f_X12_in (nI v).toInt64 (0 : Int64) (15 : Int64) = some 1 from q3), c1_0, if_neg (show ¬ nI v < 0 from nI_pos (by omega)), if_pos (show nI v < (16 : Int32) from nI_lt (b := 16) (by omega) (by omega))]
  simp (disch := omega) only [li_8, nI_add, gd_n, nI_clamp, hb.k2 ho, hr.k2 ho, ob_s]
  refine ⟨se_B B 2 o v, _, _, sA σ 306 (8 + o) (nI v), rfl, hW.se ⟨by omega, by omega, fun _ => by omega, by omega, by omega⟩, rfl, ?_, (FC_.rf _ _ _).sA (by omega), (FR.rf _ _).sA, hb.se (j := 2) rfl (by omega), hr.se hW (j := 1) (by omega) (by omega) ho (by omega)⟩
  rw [Int32.add_comm]
theorem op_kn2 {B : Bd_} (C : Lw) {χ σ : St} (hW : WB B) (hb : BC_ 32 B χ) (hr : BR 306 0 B σ) (a1 : Int32) : OP1 B C χ σ (f_X0_cut χ 32 a1) (f_X12_cutsOpen σ a1) := by
  have h8 := hW.1
  have no : ∀ a, OP1 B C χ σ (some (a, χ)) (some (a, σ)) := fun a => ⟨B, a, χ, σ, rfl, hW, rfl, rfl, FC_.rf _ _ _, FR.rf _ _, hb, hr⟩
  unfold f_X0_cut f_X12_cutsOpen
  rcases os_ca hW hb hr a1 with ⟨q1, q2⟩ | ⟨o, ho, rfl, q1, q2⟩
  · simp only [q1, q2, ob_s, c0_0]
    exact no _
  simp only [q1, q2, ob_s, c1_0]
  have b3 := hW.b3 ho
  by_cases hz : B.2.1 3 o = 0
  · simp (disch := omega) only [li_0, li_16, nI_add, gd_n, nI_clamp, hb.k3 ho, hr.k3 ho, c_eqT, if_true]
    exact no _
  · simp (disch := omega) only [li_0, li_16, li_24, nI_add, gd_n, nI_clamp, hb.k3 ho, hr.k3 ho, c_eqF, rAj, hb.k4 ho, hr.k4 ho]
    refine ⟨se_B (se_B B 3 o 0) 4 o 0, _, _, _, rfl, (hW.se ⟨by omega, by omega, by omega, by omega, by omega⟩).se ⟨by omega, by omega, by omega, by omega, by omega⟩, rfl, rfl, ((FC_.rf _ _ _).sA (by omega)).sA (by omega), (FR.rf _ _).sA.sA, (hb.se (j := 3) rfl (by omega)).se (j := 4) rfl (by omega), (hr.se hW (j := 2) (by omega) (by omega) ho (by omega)).se (hW.se ⟨by omega, by omega, by omega, by omega, by omega⟩) (j := 3) (by omega) (by omega) ho (by omega)⟩
def OPD (B : Bd_) (χ σ : St) (r : Option (Int32 × St)) (q : Option (Int32 × St)) : Prop := ∃ (B' : Bd_) (a : Int32) (χ' σ' : St), B'.1 = B.1 ∧ WB B' ∧ r = some (a, χ') ∧ q = some ((if a < 0 then (0 : Int32) else (1 : Int32)), σ') ∧ FC_ 32 ((cW χ).1 + 4) χ χ' ∧ FR 306 σ σ' ∧ BC_ 32 B' χ' ∧ BR 306 0 B' σ'
theorem kd_c {c : Nat} (h : kd c ≠ 0) : c = 102 ∨ c = 107 ∨ c = 110 ∨ c = 113 ∨ c = 118 := by
  unfold kd at h
  by_cases h1 : c = 102
  · omega
  by_cases h2 : c = 107
  · omega
  by_cases h3 : c = 110
  · omega
  by_cases h4 : c = 113
  · omega
  by_cases h5 : c = 118
  · omega
  rw [if_neg h1, if_neg h2, if_neg h3, if_neg h4, if_neg h5] at h
  exact absurd rfl h
theorem op_ac {B : Bd_} {C : Lw} {T : Nat × (Nat → Nat)} {χ σ σx : St} {L j : Nat} (W : WB B) (hb : BC_ 32 B χ) (hr : BR 306 0 B σ) (hi : isLaw (cW χ).1 = true) (hw : (cW χ).1 = 16 ∨ (cW χ).1 = 21) (hC : WC C) (hLC : LC_ (cW χ).1 C χ) (hR : LR_ C σ) (hT : RT T χ σx) (hL : L ≤ T.1) (h0 : fo T.2 L (ip T.2 j) = 0) (hj : j < 60) (hit : IT T.2 j σ) : OPD B χ σ (f_X11_actAt χ (nI (ip T.2 j))) (f_X12_does σ (nI j)) := by
  obtain ⟨i1, i2, i3⟩ := hit
  obtain ⟨k1, k2, k3, k4, k5, k6⟩ := fo_0 h0
  have h80 := hT.1
  have hd1 : 48 ≤ T.2 (ip T.2 j + 1) ∧ T.2 (ip T.2 j + 1) ≤ 57 := of_decide_eq_true k3
  have e0 := x8_at hT (i := ip T.2 j) (by omega)
  have e1 := x8_dg hT (i := ip T.2 j + 1) (by omega)
  rw [if_pos k3] at e1
  unfold f_X11_actAt f_X12_does
  rw [nI_1, bi_nd e1, bi_nd e0, gd_n (by omega) (by omega), gd_n (by omega) (by omega), nI_clamp (by omega), i1, i2]
  have hp2 : nI (ip T.2 j) + (2 : Int32) = nI (ip T.2 j + 2) := by rw [show (2 : Int32) = nI 2 from rfl, nI_add]
  rcases kd_c (show kd (T.2 (ip T.2 j)) ≠ 0 by omega) with e | e | e | e | e
  · have hk : kd (T.2 (ip T.2 j)) = 2 := by rw [e]; rfl
    have e2 := x8_dg hT (i := ip T.2 j + 2) (by have := (k5 (by omega)).1; omega)
    rw [if_pos (k5 (by omega)).2] at e2
    have i4 := i3 (by omega)
    rw [n2_, if_neg (by omega)] at i4
    obtain ⟨B', a, χ', σ', q1, q2, q3, q4, q5, q6, q7, q8⟩ := op_st2 C W hb hr (nI (T.2 (ip T.2 j + 1) - 48)) (nI (T.2 (ip T.2 j + 2) - 48))
    rw [e, show kq 102 = 3 from rfl, i4, hp2, if_pos (by decide), bi_nd e2, bi_nd q3, if_neg (by decide), if_neg (by decide), if_neg (by decide), if_pos (by decide), gd_n (by omega) (by omega), bi_nd q4]
    exact ⟨B', a, χ', σ', q1, q2, rfl, rfl, q5, q6, q7, q8⟩
  · obtain ⟨B', a, χ', σ', q1, q2, q3, q4, q5, q6, q7, q8⟩ := op_kn2 C W hb hr (nI (T.2 (ip T.2 j + 1) - 48))
    rw [e, show kq 107 = 1 from rfl, if_neg (by decide), if_pos (by decide), bi_nd q3, if_neg (by decide), if_pos (by decide), bi_nd q4]
    exact ⟨B', a, χ', σ', q1, q2, rfl, rfl, q5, q6, q7, q8⟩
  · obtain ⟨χ', q3, q7, q5⟩ := x0_go (w := (cW χ).1 + 4) (b := 32) (t := T.2 (ip T.2 j + 1) - 48) W hb (by omega)
    obtain ⟨σ', q4, q8, q6⟩ := x12_go (r := 306) (t := T.2 (ip T.2 j + 1) - 48) (by omega) W hr (by omega)
    rw [e, show kq 110 = 0 from rfl, if_neg (by decide), if_neg (by decide), if_pos (by decide), bi_nd q3, if_pos (by decide), bi_nd q4]
    have hb31 := bi_31 (fun i => oP_ (goB B (T.2 (ip T.2 j + 1) - 48)) 0 i && !oP_ B 0 i) (n := B.1) (by have := W.1; omega)
    exact ⟨goB B (T.2 (ip T.2 j + 1) - 48), _, χ', σ', rfl, goB_w W, rfl, by rw [if_neg (nI_pos (by omega))], q5, q6, q7, q8⟩
  · have hk : kd (T.2 (ip T.2 j)) = 2 := by rw [e]; rfl
    have h51 := k4 e
    have hd2 : 48 ≤ T.2 (ip T.2 j + 2) ∧ T.2 (ip T.2 j + 2) ≤ 57 := of_decide_eq_true (k5 (by omega)).2
    have e2 := x8_dg hT (i := ip T.2 j + 2) (by have := (k5 (by omega)).1; omega)
    rw [if_pos (k5 (by omega)).2] at e2
    have i4 := i3 (by omega)
    rw [n2_, if_neg (by omega)] at i4
    obtain ⟨χ', q3, q7, q5⟩ := x0_as (w := (cW χ).1) (b := 32) (t := T.2 (ip T.2 j + 1) - 48) (wd := T.2 (ip T.2 j + 2) - 48) (by omega) (by omega) (by omega) W hb hC hLC (by omega)
    obtain ⟨σ', q4, q8, q6⟩ := x12_as (r := 306) (t := T.2 (ip T.2 j + 1) - 48) (wd := T.2 (ip T.2 j + 2) - 48) ⟨by omega, by omega, by omega⟩ W hr hC hR (by omega)
    rw [e, show kq 113 = 2 from rfl, i4, hp2, if_neg (by decide), if_neg (by decide), if_neg (by decide), if_pos (by decide), gd_t hi, bi_nd e2, bi_nd q3, if_neg (by decide), if_neg (by decide), if_pos (by decide), gd_n (by omega) (by omega), bi_nd q4]
    have hb31 := bi_31 (clP B C (T.2 (ip T.2 j + 1) - 48) (T.2 (ip T.2 j + 2) - 48)) (n := B.1) (by have := W.1; omega)
    exact ⟨asB B (clP B C (T.2 (ip T.2 j + 1) - 48) (T.2 (ip T.2 j + 2) - 48)), _, χ', σ', rfl, asB_w W, rfl, by rw [if_neg (nI_pos (by omega))], q5, q6, q7, q8⟩
  · have hk : kd (T.2 (ip T.2 j)) = 3 := by rw [e]; rfl
    have hd2 : 48 ≤ T.2 (ip T.2 j + 2) ∧ T.2 (ip T.2 j + 2) ≤ 57 := of_decide_eq_true (k5 (by omega)).2
    have hd3 : 48 ≤ T.2 (ip T.2 j + 3) ∧ T.2 (ip T.2 j + 3) ≤ 57 := of_decide_eq_true (k6 (by omega)).2
    have e2 := x8_dg hT (i := ip T.2 j + 2) (by have := (k5 (by omega)).1; omega)
    have e3 := x8_dg hT (i := ip T.2 j + 3) (by have := (k6 (by omega)).1; omega)
    rw [if_pos (k5 (by omega)).2] at e2
    rw [if_pos (k6 (by omega)).2] at e3
    have i4 := i3 (by omega)
    have et : f_X8_twoDigitsAt χ (nI (ip T.2 j + 2)) = some (nI (n2_ T.2 (ip T.2 j))) := by
      unfold f_X8_twoDigitsAt
      rw [bi_nd e2, nI_1, bi_nd e3, show (10 : Int32) = nI 10 from rfl, pk_mul, nI_add, n2_, if_pos e]
    obtain ⟨B', a, χ', σ', q1, q2, q3, q4, q5, q6, q7, q8⟩ := op_ho2 C W hb hr (nI (T.2 (ip T.2 j + 1) - 48)) (nI (n2_ T.2 (ip T.2 j)))
    rw [e, show kq 118 = 4 from rfl, i4, hp2, if_neg (by decide), if_neg (by decide), if_neg (by decide), if_neg (by decide), if_pos (by decide), bi_nd et, bi_nd q3, if_neg (by decide), if_neg (by decide), if_neg (by decide), if_neg (by decide), gd_n (by omega) (by omega), bi_nd q4]
    exact ⟨B', a, χ', σ', q1, q2, rfl, rfl, q5, q6, q7, q8⟩
