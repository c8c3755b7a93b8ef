/-! LAYER 2: later, opens, line, repeats, years. -/
theorem x12_en {σ σ' : St} {a : Int64} (h : f_X12_enters σ a = some σ') : cA σ' = cA σ ∧ ∀ j, j ≠ 1 → cF σ' 300 j = cF σ 300 j := by
  unfold f_X12_enters at h
  obtain ⟨-, h⟩ := gd_some h
  have e := Option.some.inj h
  rw [← e]
  exact ⟨rfl, fun j hj => rFj hj⟩
theorem x9_en {χ χ' : St} {a : Int64} (h : f_X9_add χ a = some χ') : cA χ' = cA χ ∧ cW χ' = cW χ ∧ ∀ p, p ≠ 3 → cF χ' p = cF χ p := by
  unfold f_X9_add at h
  by_cases hc : (12 : Int32) ≤ cF χ 3 1
  · rw [if_pos hc] at h
    rw [← Option.some.inj h]
    exact ⟨rfl, rfl, fun p _ => rfl⟩
  · rw [if_neg hc] at h
    obtain ⟨-, h⟩ := gd_some h
    rw [← Option.some.inj h]
    exact ⟨rfl, rfl, fun p hp => rFp hp⟩
theorem rl_cp {B : Bd_} {T : Nat × (Nat → Nat)} {m : Nat} {C : Lw} {χ σ : St} (h : Rl_ B T m C χ σ) : ∃ s, f_X12_copies σ = some s ∧ Rl_ B T m C χ s ∧ BR 307 0 B s ∧ cF s = cF σ := by
  obtain ⟨s, e, h1, h2, h3, h4, h5⟩ := x12_cp (σ := σ)
  refine ⟨s, e, h.sc (SC_.rf _) ⟨⟨fun j _ => by rw [h1], fun p hp => h4 p (by omega)⟩, by rw [h1], by rw [h2]⟩, ?_, h1⟩
  refine h.r.mv h.W (by rw [h1]) (h4 305 (by omega)) (fun i hi => ?_)
  rw [Nat.zero_add]
  exact h5 i hi
theorem y_19 (χ σ : St) (a1 : Int32) (h : Rel_ χ σ) : ∃ (v : Int32) (χ1 : St) (σ1 : St), f_X11_later χ a1 = some (v, χ1) ∧ f_X12_later σ a1 = some (v, σ1) ∧ Rel_ χ1 σ1 := by
  obtain ⟨B, T, m, C, h⟩ := h
  have h0 := h.th
  unfold f_X11_later f_X12_later
  generalize sF σ 300 0 (0 : Int32) = σ0 at h0 ⊢
  rcases in_ca a1 0 99 (by omega) (by omega) with ⟨q1, q2⟩ | ⟨n, -, hn, rfl, q1⟩
  · refine ⟨-1, χ, σ0, ?_, ?_, h0.rel⟩
    · by_cases hz : a1 < 0
      · rw [if_pos hz]
      · rw [if_neg hz, if_neg (show ¬ a1 ≤ (99 : Int32) from lt_le (q2.resolve_left hz))]
    · rw [bi_nd (show f_X12_in a1.toInt64 (0 : Int64) (99 : Int64) = some 0 from q1)]; rfl
  rw [if_neg (show ¬ nI n < 0 from nI_pos (by omega)), if_pos (show nI n ≤ (99 : Int32) from nI_le (b := 99) hn (by omega)), bi_nd (show f_X12_in (nI n).toInt64 (0 : Int64) (99 : Int64) = some 1 from q1), c1_0]
  obtain ⟨s1, e1, h1, hr1, -⟩ := rl_cp h0
  obtain ⟨s2, e2, hr2, hf2⟩ := x12_go (r := 307) (t := n) (by omega) h.W hr1 (by omega)
  have h2 : Rl_ B T m C χ s2 := h1.sc (SC_.rf _) (sr_FR hf2)
  have h3 := rl_st h2
  have hW2 := goB_w (t := n) h.W
  have hop : bi (oP_ (goB B n) 0) B.1 = bi (oP_ B n) B.1 := bi_ex (fun i hi => by
    unfold oP_
    rw [goB_3 hi]
    exact decide_eq_decide.mpr (by omega))
  have o1 := x12_op hW2 (hr2.cg (σ' := sF s2 300 1 0) (rFj (by omega)) rfl rfl)
  rw [show (goB B n).1 = B.1 from rfl, hop] at o1
  obtain ⟨χ4, σ4, e3, e4, h4⟩ := rl_ad h3 (by omega) (nI (cn (oP_ B n) B.1)).toInt64
  have he := x12_en e4
  have o2 := x12_op hW2 (hr2.cg (σ' := σ4) ((he.2 3 (by omega)).trans (rFj (by omega))) (by rw [he.1]; rfl) (by rw [he.1]; rfl))
  rw [show (goB B n).1 = B.1 from rfl, hop] at o2
  simp only [x0_in h.W h.b (show n < 2 ^ 31 by omega), e1, e2, ob_s, o1, x9_s0, h.b16, e3, e4, o2]
  exact ⟨_, _, _, rfl, rfl, h4.rel⟩
/-- k tides, one by one -/
def itB_ (B : Bd_) : Nat → Bd_
  | 0 => B
  | k + 1 => goB (itB_ B k) 1
theorem itB_n (B : Bd_) (k : Nat) : (itB_ B k).1 = B.1 := by
  induction k with
  | zero => rfl
  | succ k ih => exact ih
theorem itB_w {B : Bd_} (W : WB B) (k : Nat) : WB (itB_ B k) := by
  induction k with
  | zero => exact W
  | succ k ih => exact goB_w ih
theorem itB_3 {B : Bd_} {k i : Nat} (hi : i < B.1) : (itB_ B k).2.1 3 i = B.2.1 3 i - k := by
  induction k with
  | zero => rfl
  | succ k ih =>
    show (goB (itB_ B k) 1).2.1 3 i = _
    rw [goB_3 (by rw [itB_n]; exact hi), ih]
    omega
theorem itB_o {B : Bd_} {k : Nat} : bi (oP_ (itB_ B k) 0) B.1 = bi (oP_ B k) B.1 := bi_ex (fun i hi => by
  unfold oP_
  rw [itB_3 hi]
  exact decide_eq_decide.mpr (by omega))
theorem cn_al {p : Nat → Bool} {n : Nat} (h : ∀ i, i < n → p i = true) : cn p n = n := by
  induction n with
  | zero => rfl
  | succ n ih => rw [cn_s, if_pos (h n (by omega)), ih (fun i hi => h i (by omega))]
theorem y_21 (χ σ : St) (a1 : Int32) (h : Rel_ χ σ) : ∃ (v : Int32) (χ1 : St) (σ1 : St), f_X11_opens χ a1 = some (v, χ1) ∧ f_X12_opens σ a1 = some (v, σ1) ∧ Rel_ χ1 σ1 := by
  obtain ⟨B, T, m, C, h⟩ := h
  have h0 := h.th
  have h8 := h.W.1
  unfold f_X11_opens f_X12_opens
  generalize sF σ 300 0 (0 : Int32) = σ0 at h0 ⊢
  rcases in_ca a1 0 8 (by omega) (by omega) with ⟨q1, q2⟩ | ⟨n, -, hn, rfl, q1⟩
  · refine ⟨-1, χ, σ0, ?_, ?_, h0.rel⟩
    · by_cases hz : a1 < 0
      · rw [if_pos hz]
      · rw [if_neg hz, if_neg (show ¬ a1 ≤ (8 : Int32) from lt_le (q2.resolve_left hz))]
    · rw [bi_nd (show f_X12_in a1.toInt64 (0 : Int64) (8 : Int64) = some 0 from q1)]; rfl
  rw [if_neg (show ¬ nI n < 0 from nI_pos (by omega)), if_pos (show nI n ≤ (8 : Int32) from nI_le (b := 8) hn (by omega)), bi_nd (show f_X12_in (nI n).toInt64 (0 : Int64) (8 : Int64) = some 1 from q1), c1_0, bi_nd h.ca, h0.r.n]
  have hM : mxN (B.2.1 3) B.1 ≤ 9 := mxN_le (fun i hi => h.W.b3 hi)
  have step0 : ∀ k, k ≤ mxN (B.2.1 3) B.1 → f_X0_openIn χ 32 (nI k) = some (nI (bi (oP_ B k) B.1)) := fun k hk => x0_in h.W h.b (by omega)
  by_cases hnB : n ≤ B.1
  · rw [if_pos (nI_le hnB (by omega))]
    obtain ⟨s1, e1, h1, hr1, -⟩ := rl_cp h0
    rw [bi_nd e1]
    obtain ⟨x, y, e2, e3, k, χ', σ', hk, rfl, hadd, rfl, hs, hr⟩ := it_two (st1 := fun z : Int32 × St => f_X11_opens_s19 z.2 (nI n) (nI (mxN (B.2.1 3) B.1)) z.1) (st2 := fun z : Int32 × St => f_X12_opens_s36 z.2 (nI n) z.1) (s := ((0 : Int32), χ)) (t := ((0 : Int32), s1))
      (fun k s u => s = (nI k, χ) ∧ ∃ σ', u = (nI k, σ') ∧ Rl_ B T m C χ σ' ∧ BR 307 0 (itB_ B k) σ')
      (fun x y => ∃ k χ' σ', k ≤ mxN (B.2.1 3) B.1 ∧ x = .inl (nI k, χ') ∧ f_X9_add (sF χ 3 1 0) (nI (bi (oP_ B k) B.1)).toInt64 = some χ' ∧ y = (nI k, σ') ∧ Rl_ B T m C χ σ' ∧ BR 307 0 (itB_ B k) σ') (mxN (B.2.1 3) B.1) (by omega) ⟨rfl, s1, rfl, h1, hr1⟩
      (fun k s u hk hI => by
        obtain ⟨rfl, σ', rfl, h2, hr2⟩ := hI
        have o1 := x12_op (itB_w h.W k) hr2
        rw [itB_n, itB_o] at o1
        have hc := cn_le (oP_ B k) B.1
        show (k < mxN (B.2.1 3) B.1 ∧ ∃ s' t', f_X11_opens_s19 χ (nI n) (nI (mxN (B.2.1 3) B.1)) (nI k) = some (.inl s') ∧ f_X12_opens_s36 σ' (nI n) (nI k) = some (.inl t') ∧ _) ∨ ∃ x y, f_X11_opens_s19 χ (nI n) (nI (mxN (B.2.1 3) B.1)) (nI k) = some (.inr x) ∧ f_X12_opens_s36 σ' (nI n) (nI k) = some (.inr y) ∧ _
        unfold f_X11_opens_s19 f_X12_opens_s36
        simp (disch := omega) only [c_ltF, step0, o1, ob_s, h.b16]
        by_cases hq : n ≤ cn (oP_ B k) B.1
        · obtain ⟨χ3, σ3, e3, e4, h3⟩ := rl_ad (rl_st h2) (by omega) (nI (bi (oP_ B k) B.1)).toInt64
          simp (disch := omega) only [c_ltF, c_leT, x9_s0, ob_s, e3]
          exact Or.inr ⟨_, _, rfl, rfl, k, χ3, σ', hk, rfl, e3, rfl, h2, hr2⟩
        · have hk2 : k < mxN (B.2.1 3) B.1 := by
            rcases Nat.lt_or_ge k (mxN (B.2.1 3) B.1) with q | q
            · exact q
            · exfalso
              apply hq
              rw [cn_al (p := oP_ B k) (fun i hi => decide_eq_true (by have := mxN_ge (f := B.2.1 3) hi; omega))]
              exact hnB
          obtain ⟨s2, e2, hr3, hf⟩ := x12_go (r := 307) (t := 1) (by omega) (itB_w h.W k) hr2 (by omega)
          simp (disch := omega) only [c_ltT, c_leF, li_1, e2, ob_s, nI_add]
          exact Or.inl ⟨hk2, _, _, rfl, rfl, rfl, s2, rfl, h2.sc (SC_.rf _) (sr_FR hf), hr3⟩)
    have o1 := x12_op (itB_w h.W k) (hr.cg (σ' := sF σ' 300 1 0) (rFj (by omega)) rfl rfl)
    rw [itB_n, itB_o] at o1
    obtain ⟨χ4, σ4, e5, e6, h4⟩ := rl_ad (rl_st hs) (by omega) (nI (bi (oP_ B k) B.1)).toInt64
    have hχ : χ' = χ4 := Option.some.inj (hadd.symm.trans e5)
    subst hχ
    simp only [bi_nd e2, bi_nd e3, o1, ob_s, e6]
    exact ⟨_, _, _, rfl, rfl, h4.rel⟩
  · rw [if_neg (nI_ge (by omega) (by omega))]
    obtain ⟨x, e2, rfl⟩ := it_inv (step := fun z : Int32 × St => f_X11_opens_s19 z.2 (nI n) (nI (mxN (B.2.1 3) B.1)) z.1) (s := ((0 : Int32), χ)) (fun k s => s = (nI k, χ)) (fun x => x = .inr χ) (mxN (B.2.1 3) B.1 + 1) (by omega) rfl
      (fun k s hk hI => by
        subst hI
        have hc := cn_le (oP_ B k) B.1
        show ∃ s', f_X11_opens_s19 χ (nI n) (nI (mxN (B.2.1 3) B.1)) (nI k) = some (.inl s') ∧ _
        unfold f_X11_opens_s19
        simp (disch := omega) only [c_ltF, step0, ob_s, h.b16, c_ltT, li_1, nI_add]
        exact ⟨_, rfl, rfl⟩)
      (fun s hI => by
        subst hI
        refine ⟨_, ?_, rfl⟩
        show f_X11_opens_s19 χ (nI n) (nI (mxN (B.2.1 3) B.1)) (nI (mxN (B.2.1 3) B.1 + 1)) = _
        unfold f_X11_opens_s19
        simp (disch := omega) only [c_ltT])
    rw [bi_nd e2]
    exact ⟨_, _, _, rfl, rfl, h0.rel⟩
/-- N turns side by side, then the first ends -/
theorem it_tw2 {S X T Y : Type} {st1 : S → Option (S ⊕ X)} {st2 : T → Option (T ⊕ Y)} (I : Nat → S → T → Prop) (Q : X → T → Prop) (N : Nat) (hN : N < 4096) {s : S} {t : T} (h0 : I 0 s t)
    (h : ∀ k s t, k < N → I k s t → ∃ s' t', st1 s = some (.inl s') ∧ st2 t = some (.inl t') ∧ I (k + 1) s' t') (hx : ∀ s t, I N s t → ∃ x, st1 s = some (.inr x) ∧ Q x t) : ∃ x t', iter st1 FU s = some x ∧ iter st2 FU t = iter st2 (FU - N) t' ∧ Q x t' := by
  have key : ∀ (d k f : Nat) (s : S) (t : T), k + d = N → d < f → I k s t → ∃ x t', iter st1 f s = some x ∧ iter st2 f t = iter st2 (f - d) t' ∧ Q x t' := by
    intro d
    induction d with
    | zero =>
      intro k f s t hk hf hI
      rw [show k = N by omega] at hI
      obtain ⟨x, e, hq⟩ := hx s t hI
      cases f with
      | zero => omega
      | succ f => exact ⟨x, t, by unfold iter; rw [e], rfl, hq⟩
    | succ d ih =>
      intro k f s t hk hf hI
      obtain ⟨s', t', e1, e2, hI'⟩ := h k s t (by omega) hI
      cases f with
      | zero => omega
      | succ f =>
        obtain ⟨x, t2, e3, e4, hq⟩ := ih (k + 1) f s' t' (by omega) (by omega) hI'
        refine ⟨x, t2, by unfold iter; rw [e1]; exact e3, ?_, hq⟩
        rw [show f + 1 - (d + 1) = f - d by omega, ← e4]
        show iter st2 (f + 1) t = _
        rw [show iter st2 (f + 1) t = (match st2 t with | none => none | some (.inl s') => iter st2 f s' | some (.inr x) => some x) from rfl, e2]
  exact key N 0 FU s t (by omega) (by unfold FU; omega) h0
theorem y_22 (χ σ : St) (h : Rel_ χ σ) : ∃ (v : Int32) (χ1 : St) (σ1 : St), f_X11_line χ = some (v, χ1) ∧ f_X12_line σ = some (v, σ1) ∧ Rel_ χ1 σ1 := by
  obtain ⟨B, T, m, C, h⟩ := h
  have h0 := h.th
  have h8 := h.W.1
  unfold f_X11_line f_X12_line
  generalize sF σ 300 0 (0 : Int32) = σ0 at h0 ⊢
  rw [bi_nd h.ca, x9_s0, ob_s]
  have hM : mxN (B.2.1 3) B.1 ≤ 9 := mxN_le (fun i hi => h.W.b3 hi)
  have mm : ∀ v, cn (fun i => decide (B.2.1 3 i < v + 1)) B.1 = cn (fun i => decide (B.2.1 3 i < v)) B.1 + cn (fun i => decide (B.2.1 3 i = v)) B.1 := by
    intro v
    have key : ∀ n, cn (fun i => decide (B.2.1 3 i < v + 1)) n = cn (fun i => decide (B.2.1 3 i < v)) n + cn (fun i => decide (B.2.1 3 i = v)) n := by
      intro n
      induction n with
      | zero => rfl
      | succ n ih =>
        rw [cn_s, cn_s, cn_s, ih]
        by_cases q1 : B.2.1 3 n < v
        · rw [if_pos (decide_eq_true (by omega)), if_pos (decide_eq_true q1), if_neg (by rw [decide_eq_true_eq]; omega)]; omega
        · by_cases q2 : B.2.1 3 n = v
          · rw [if_pos (decide_eq_true (by omega)), if_neg (by rw [decide_eq_true_eq]; omega), if_pos (decide_eq_true q2)]; omega
          · rw [if_neg (by rw [decide_eq_true_eq]; omega), if_neg (by rw [decide_eq_true_eq]; omega), if_neg (by rw [decide_eq_true_eq]; omega)]; omega
    exact key B.1
  obtain ⟨χ', t', e1, e2, σ', rfl, h1⟩ := it_tw2 (st1 := fun z : Int32 × St => f_X11_line_s14 z.2 (nI (mxN (B.2.1 3) B.1)) z.1) (st2 := fun z : Int32 × St => f_X12_line_s12 z.2 z.1) (s := ((0 : Int32), sF χ 3 1 0)) (t := ((0 : Int32), sF σ0 300 1 0))
    (fun v s u => ∃ χ' σ', s = (nI v, χ') ∧ u = (nI v, σ') ∧ Rl_ B T (cn (fun i => decide (B.2.1 3 i < v)) B.1) C χ' σ')
    (fun x u => ∃ σ', u = (nI (mxN (B.2.1 3) B.1 + 1), σ') ∧ Rl_ B T (cn (fun i => decide (B.2.1 3 i < mxN (B.2.1 3) B.1 + 1)) B.1) C x σ') (mxN (B.2.1 3) B.1 + 1) (by omega) ⟨_, _, rfl, rfl, by
      have z : ∀ n, cn (fun i => decide (B.2.1 3 i < 0)) n = 0 := by
        intro n
        induction n with
        | zero => rfl
        | succ n ih => rw [cn_s, ih, if_neg (by simp)]
      rw [z]
      exact rl_st h0⟩
    (fun v s u hv hI => by
      obtain ⟨χ', σ', rfl, rfl, h1⟩ := hI
      have hm := mm v
      have hm2 := cn_le (fun i => decide (B.2.1 3 i < v + 1)) B.1
      obtain ⟨x, y, e1, e2, h2⟩ := it_twn (st1 := fun z : Int32 × St => f_X11_line_s21 z.2 (nI (mxN (B.2.1 3) B.1)) (nI v) z.1) (st2 := fun z : Int32 × St => f_X12_line_s20 z.2 (nI v) z.1) (s := ((0 : Int32), χ')) (t := ((0 : Int32), σ'))
        (fun j s u => s.1 = nI j ∧ u.1 = nI j ∧ Rl_ B T (cn (fun i => decide (B.2.1 3 i < v)) B.1 + cn (fun i => decide (B.2.1 3 i = v)) j) C s.2 u.2)
        (fun x y => Rl_ B T (cn (fun i => decide (B.2.1 3 i < v)) B.1 + cn (fun i => decide (B.2.1 3 i = v)) B.1) C x y) B.1 (by omega) ⟨rfl, rfl, h1⟩
        (fun j s u hj hJ => by
          obtain ⟨s1, χ'⟩ := s
          obtain ⟨u1, σ'⟩ := u
          obtain ⟨rfl, rfl, h1⟩ := hJ
          dsimp only at h1
          have b3 := h1.W.b3 hj
          have hj2 : cn (fun i => decide (B.2.1 3 i = v)) j ≤ cn (fun i => decide (B.2.1 3 i = v)) B.1 ∧ (B.2.1 3 j = v → cn (fun i => decide (B.2.1 3 i = v)) j < cn (fun i => decide (B.2.1 3 i = v)) B.1) := by
            have key : ∀ n, j < n → cn (fun i => decide (B.2.1 3 i = v)) (j + 1) ≤ cn (fun i => decide (B.2.1 3 i = v)) n := by
              intro n
              induction n with
              | zero => intro q; omega
              | succ n ih =>
                intro q
                by_cases e : j = n
                · subst e; exact Nat.le_refl _
                · have := ih (by omega)
                  rw [cn_s _ n]
                  omega
            have k1 := key B.1 hj
            rw [cn_s _ j] at k1
            refine ⟨by omega, fun q => ?_⟩
            rw [if_pos (decide_eq_true q)] at k1
            omega
          show ∃ s' t', f_X11_line_s21 χ' (nI (mxN (B.2.1 3) B.1)) (nI v) (nI j) = some (.inl s') ∧ f_X12_line_s20 σ' (nI v) (nI j) = some (.inl t') ∧ _
          unfold f_X11_line_s21 f_X11_line_j54_21 f_X12_line_s20 f_X12_line_j47_20
          simp (disch := omega) only [h1.b.n, h1.r.n, show cA χ' 36 j = nI (B.2.1 3 j) from h1.b.k3 hj, h1.r.k3 hj, li_1, li_16, c_leF, gd_n, nI_clamp, nI_add]
          by_cases hq : B.2.1 3 j = v
          · obtain ⟨χ3, σ3, e3, e4, h3⟩ := rl_ad h1 (by have := hj2.2 hq; omega) (nI j).toInt64
            rw [if_pos (by rw [hq]), if_pos (by rw [hq]), bi_nd e3, bi_nd e4]
            refine ⟨_, _, rfl, rfl, rfl, rfl, ?_⟩
            rw [cn_s _ j, if_pos (decide_eq_true hq)]
            exact h3
          · rw [if_neg (fun q => hq ((nI_eq (by omega) (by omega)).mp q)), if_neg (fun q => hq ((nI_eq (by omega) (by omega)).mp q))]
            refine ⟨_, _, rfl, rfl, rfl, rfl, ?_⟩
            rw [cn_s _ j, if_neg (by rw [decide_eq_true_eq]; exact hq)]
            exact h1)
        (fun s u hJ => by
          obtain ⟨s1, χ'⟩ := s
          obtain ⟨u1, σ'⟩ := u
          obtain ⟨rfl, rfl, h1⟩ := hJ
          dsimp only at h1
          refine ⟨χ', σ', ?_, ?_, h1⟩
          · show f_X11_line_s21 χ' (nI (mxN (B.2.1 3) B.1)) (nI v) (nI B.1) = _
            unfold f_X11_line_s21
            simp (disch := omega) only [h1.b.n, c_leT]
          · show f_X12_line_s20 σ' (nI v) (nI B.1) = _
            unfold f_X12_line_s20
            simp (disch := omega) only [h1.r.n, c_leT])
      show ∃ s' t', f_X11_line_s14 χ' (nI (mxN (B.2.1 3) B.1)) (nI v) = some (.inl s') ∧ f_X12_line_s12 σ' (nI v) = some (.inl t') ∧ _
      unfold f_X11_line_s14 f_X12_line_s12
      simp (disch := omega) only [li_9, c_ltF, bi_nd e1, bi_nd e2]
      refine ⟨_, _, rfl, rfl, x, y, by rw [nI_1], by rw [nI_1], ?_⟩
      rw [hm]
      exact h2)
    (fun s u hI => by
      obtain ⟨χ', σ', rfl, rfl, h1⟩ := hI
      refine ⟨χ', ?_, σ', rfl, h1⟩
      show f_X11_line_s14 χ' (nI (mxN (B.2.1 3) B.1)) (nI (mxN (B.2.1 3) B.1 + 1)) = _
      unfold f_X11_line_s14
      simp (disch := omega) only [c_ltT])
  have hall : cn (fun i => decide (B.2.1 3 i < mxN (B.2.1 3) B.1 + 1)) B.1 = B.1 := cn_al (fun i hi => decide_eq_true (by have := mxN_ge (f := B.2.1 3) hi; omega))
  rw [hall] at h1
  -- the rest of the reference's turns
  obtain ⟨σ2, e3, h2⟩ := it_any (step := fun z : Int32 × St => f_X12_line_s12 z.2 z.1) (fun k z => z.1 = nI (mxN (B.2.1 3) B.1 + 1 + k) ∧ Rl_ B T B.1 C χ' z.2) (fun x => Rl_ B T B.1 C χ' x) (9 - mxN (B.2.1 3) B.1) (fun k z hk hI => by
    obtain ⟨z1, s⟩ := z
    obtain ⟨rfl, h1⟩ := hI
    dsimp only at h1
    by_cases hk2 : k < 9 - mxN (B.2.1 3) B.1
    · refine Or.inl ⟨hk2, ?_⟩
      have e4 : iter (fun z : Int32 × St => f_X12_line_s20 z.2 (nI (mxN (B.2.1 3) B.1 + 1 + k)) z.1) FU ((0 : Int32), s) = some s := by
        refine it_for (fun j => (nI j, s)) B.1 (by omega) rfl (fun j hj => ?_) ?_
        · have b3 := h1.W.b3 hj
          have b4 := mxN_ge (f := B.2.1 3) hj
          show f_X12_line_s20 s (nI (mxN (B.2.1 3) B.1 + 1 + k)) (nI j) = _
          unfold f_X12_line_s20 f_X12_line_j47_20
          simp (disch := omega) only [h1.r.n, h1.r.k3 hj, li_1, li_16, c_leF, gd_n, nI_clamp, nI_add, c_eqF]
        · show f_X12_line_s20 s (nI (mxN (B.2.1 3) B.1 + 1 + k)) (nI B.1) = _
          unfold f_X12_line_s20
          simp (disch := omega) only [h1.r.n, c_leT]
      show ∃ s', f_X12_line_s12 s (nI (mxN (B.2.1 3) B.1 + 1 + k)) = some (.inl s') ∧ _
      unfold f_X12_line_s12
      simp (disch := omega) only [li_9, c_ltF, bi_nd e4]
      exact ⟨_, rfl, by rw [nI_1]; rfl, h1⟩
    · refine Or.inr ⟨s, ?_, h1⟩
      show f_X12_line_s12 s (nI (mxN (B.2.1 3) B.1 + 1 + k)) = _
      unfold f_X12_line_s12
      simp (disch := omega) only [li_9, c_ltT]) (FU - (mxN (B.2.1 3) B.1 + 1)) 0 (nI (mxN (B.2.1 3) B.1 + 1), σ') (by omega) (by unfold FU; omega) ⟨rfl, h1⟩
  rw [bi_nd e1, bi_nd (e2.trans e3), h2.b.n, h2.O.2.2.1]
  exact ⟨_, _, _, rfl, rfl, h2.rel⟩
