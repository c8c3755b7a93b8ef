/-! LAYER 2: the question to put next. -/
theorem yq_8 {B : Bd_} {C : Lw} {o q : Nat} {y : Bool} (W : WB B) (ho : o < B.1) : yq_ B C o q y ≤ 8 := by
  have h8 := W.1
  have h1 := cn_at (fun k => clP B C (q / 10) (q % 10) k) true o B.1
  rw [if_pos ho] at h1
  have h2 := cn_le (fun k => if k = o then true else clP B C (q / 10) (q % 10) k) B.1
  have h3 : (true).toNat = 1 := rfl
  unfold yq_ rsN
  have : (cO B C o y.toNat (q % 10)).toNat ≤ 1 := by cases cO B C o y.toNat (q % 10) <;> decide
  omega
def mm_ (a b : Nat) : Nat := if a < b then b else a
def ml_ (B : Bd_) (C : Lw) (o q : Nat) (V : Nat → Bool) (k : Nat) : Nat := if cO B C o 0 (q % 10) = cO B C o 1 (q % 10) then cn V k else mm_ (cn (fun v => V v && v.testBit (q / 10)) k) (cn (fun v => V v && !v.testBit (q / 10)) k)
theorem ml_le {B : Bd_} {C : Lw} {o q : Nat} {V : Nat → Bool} {k : Nat} : ml_ B C o q V k ≤ k := by
  have h1 := cn_le V k
  have h2 := cn_le (fun v => V v && v.testBit (q / 10)) k
  have h3 := cn_le (fun v => V v && !v.testBit (q / 10)) k
  unfold ml_ mm_
  split
  · exact h1
  · split <;> assumption
theorem cn_pn (V M : Nat → Bool) (k : Nat) : cn V k = cn (fun v => V v && M v) k + cn (fun v => V v && !M v) k := by
  induction k with
  | zero => rfl
  | succ k ih =>
    rw [cn_s, cn_s, cn_s, ih]
    cases V k <;> cases M k <;> simp <;> omega
theorem x11_ml {B : Bd_} {T : Nat × (Nat → Nat)} {m : Nat} {C : Lw} {χ σ : St} (h : Rl_ B T m C χ σ) {o q : Nat} (ho : o < B.1) (hq : q < 40) (V : Nat → Bool) : ∃ s, f_X11_mostLeft χ (nI (bi V 16)) (nI o) (nI (q / 10)) (nI (q % 10)) = some (nI (ml_ B C o q V 16), s) ∧ Rl_ B T m C s σ := by
  have hw := h.L.w
  obtain ⟨s1, e1, h1⟩ := x0_cs (o := o) (y := 0) (wd := q % 10) (w := (cW χ).1) (by omega) (by omega) h.W h.b h.L.2.1 h.L.2.2.1 ho
  have r1 : Rl_ B T m C s1 σ := h.sc (sc_SV h.L h1) ⟨⟨fun _ _ => rfl, fun _ _ => rfl⟩, rfl, rfl⟩
  have hw1 := r1.L.w
  obtain ⟨s2, e2, h2⟩ := x0_cs (o := o) (y := 1) (wd := q % 10) (w := (cW s1).1) (by omega) (by omega) r1.W r1.b r1.L.2.1 r1.L.2.2.1 ho
  have r2 : Rl_ B T m C s2 σ := r1.sc (sc_SV r1.L h2) ⟨⟨fun _ _ => rfl, fun _ _ => rfl⟩, rfl, rfl⟩
  refine ⟨s2, ?_, r2⟩
  have hsp := cn_pn V (fun v => v.testBit (q / 10)) 16
  have hle := cn_le V 16
  unfold f_X11_mostLeft ml_
  rw [bi_nd (bc_bi V (n := 16) (by omega)), gd_t h.L.i1, show (0 : Int32) = nI 0 from rfl, show (1 : Int32) = nI 1 from rfl, bi_nd e1]
  dsimp only
  rw [gd_t r1.L.i1, bi_nd e2]
  dsimp only
  by_cases c : cO B C o 0 (q % 10) = cO B C o 1 (q % 10)
  · rw [if_pos c, if_pos (by rw [c])]
  · rw [if_neg c, if_neg (fun e => c (by revert e; cases cO B C o 0 (q % 10) <;> cases cO B C o 1 (q % 10) <;> decide)), bi_nd (wy_ _ (by omega)), nI_an, bi_and, bi_nd (bc_bi _ (n := 16) (by omega))]
    unfold mm_
    rw [pk_sub (by omega), show cn V 16 - cn (fun i => V i && i.testBit (q / 10)) 16 = cn (fun v => V v && !v.testBit (q / 10)) 16 by omega, c_ltN (by omega) (by omega), nI_sI]
def FN (σ s : St) : Prop := cF s = cF σ ∧ cL s = cL σ ∧ ∀ p, p ≠ 307 → p ≠ 319 → p ≠ 320 → p ≠ 330 → cA s p = cA σ p
theorem FN.tr {a b c : St} (h : FN a b) (k : FN b c) : FN a c := ⟨k.1.trans h.1, k.2.1.trans h.2.1, fun p a b c d => (k.2.2 p a b c d).trans (h.2.2 p a b c d)⟩
theorem FR.fn {a b : St} (h : FR 307 a b) : FN a b := ⟨h.1, h.2.1, fun p a b c _ => h.2.2 p a b c⟩
theorem sr_FN {σ s : St} (hs : FN σ s) : SR σ s := ⟨⟨fun j _ => by rw [hs.1], fun p hp => hs.2.2 p (by omega) (by omega) (by omega) (by omega)⟩, by rw [hs.1], by rw [hs.2.1]⟩
theorem cn_yq {B : Bd_} {C : Lw} {o q : Nat} {V : Nat → Bool} {k : Nat} (hV : V k = true) : ml_ B C o q V (k + 1) = mm_ (ml_ B C o q V k) (cn (fun v => V v && decide (yq_ B C o q (v.testBit (q / 10)) = yq_ B C o q (k.testBit (q / 10)))) k + 1) := by
  unfold ml_
  by_cases c : cO B C o 0 (q % 10) = cO B C o 1 (q % 10)
  · have e : (fun v => V v && decide (yq_ B C o q (v.testBit (q / 10)) = yq_ B C o q (k.testBit (q / 10)))) = V := by
      funext v
      have : yq_ B C o q (v.testBit (q / 10)) = yq_ B C o q (k.testBit (q / 10)) := by
        unfold yq_
        have c2 : cO B C o (false).toNat (q % 10) = cO B C o (true).toNat (q % 10) := c
        cases v.testBit (q / 10) <;> cases k.testBit (q / 10) <;> first | rfl | rw [c2]
      rw [decide_eq_true this, Bool.and_true]
    rw [if_pos c, if_pos c, e, cn_s, if_pos hV]
    unfold mm_
    rw [if_pos (by omega)]
  · have e : (fun v => V v && decide (yq_ B C o q (v.testBit (q / 10)) = yq_ B C o q (k.testBit (q / 10)))) = fun v => V v && decide (v.testBit (q / 10) = k.testBit (q / 10)) := by
      funext v
      have : (yq_ B C o q (v.testBit (q / 10)) = yq_ B C o q (k.testBit (q / 10))) ↔ v.testBit (q / 10) = k.testBit (q / 10) := by
        refine ⟨fun x => ?_, fun x => by rw [x]⟩
        unfold yq_ at x
        have c2 : ¬ cO B C o (false).toNat (q % 10) = cO B C o (true).toNat (q % 10) := c
        revert x
        cases v.testBit (q / 10) <;> cases k.testBit (q / 10)
        · exact fun _ => rfl
        · revert c2
          cases cO B C o (false).toNat (q % 10) <;> cases cO B C o (true).toNat (q % 10) <;> simp
        · revert c2
          cases cO B C o (false).toNat (q % 10) <;> cases cO B C o (true).toNat (q % 10) <;> simp
        · exact fun _ => rfl
      rw [decide_eq_decide.mpr this]
    rw [if_neg c, if_neg c, e, cn_s, cn_s, hV]
    unfold mm_
    cases hb : k.testBit (q / 10) with
    | true =>
      rw [show (fun v => V v && decide (v.testBit (q / 10) = true)) = fun v => V v && v.testBit (q / 10) from funext fun v => by simp]
      simp only [Bool.and_true, Bool.not_true, Bool.and_false, if_true]
      generalize cn (fun v => V v && v.testBit (q / 10)) k = x
      generalize cn (fun v => V v && !v.testBit (q / 10)) k = y
      simp only [Bool.false_eq_true, if_false, Nat.add_zero]
      split <;> split <;> (try split) <;> omega
    | false =>
      rw [show (fun v => V v && decide (v.testBit (q / 10) = false)) = fun v => V v && !v.testBit (q / 10) from funext fun v => by simp]
      simp only [Bool.and_true, Bool.not_false, Bool.and_false, if_true]
      generalize cn (fun v => V v && v.testBit (q / 10)) k = x
      generalize cn (fun v => V v && !v.testBit (q / 10)) k = y
      simp only [Bool.false_eq_true, if_false, Nat.add_zero]
      split <;> split <;> (try split) <;> omega
theorem ml_n {B : Bd_} {C : Lw} {o q : Nat} {V : Nat → Bool} {k : Nat} (hV : ¬ V k = true) : ml_ B C o q V (k + 1) = ml_ B C o q V k := by
  unfold ml_
  rw [cn_s, cn_s, cn_s, Bool.eq_false_iff.mpr hV]
  rfl
theorem x12_ml {B : Bd_} {T : Nat × (Nat → Nat)} {m : Nat} {C : Lw} {χ σ : St} (h : Rl_ B T m C χ σ) {o q : Nat} (ho : o < B.1) (hq : q < 40) (V : Nat → Bool) (x3 x4 : Int32) {τ : St} (ht : FN σ τ) (h0 : ∀ i, i < 9 → cA τ 330 i = nI 0) :
    ∃ x, iter (fun z : Int32 × Int32 × St => f_X12_next_s75 z.2.2 (nI o) (nI (bi V 16)) x3 x4 (nI q) z.1 z.2.1) FU ((0 : Int32), (0 : Int32), τ) = some x ∧ x.1 = nI (ml_ B C o q V 16) ∧ FN σ x.2 := by
  have hml0 : ml_ B C o q V 0 = 0 := by unfold ml_ mm_; split <;> rfl
  refine it_inv (fun k z => z.1 = nI (ml_ B C o q V k) ∧ z.2.1 = nI k ∧ FN σ z.2.2 ∧ ∀ i, i < 9 → cA z.2.2 330 i = nI (cn (fun v => V v && decide (yq_ B C o q (v.testBit (q / 10)) = i)) k)) _ 16 (by omega) ⟨by rw [hml0]; rfl, rfl, ht, h0⟩ (fun k z hk hI => ?_) (fun z hI => ?_)
  · obtain ⟨z1, z2, s1⟩ := z
    obtain ⟨rfl, rfl, h1, hA⟩ := hI
    dsimp only at h1 hA
    have b31 := bi_31 V (n := 16) (by omega)
    have mle : ml_ B C o q V k ≤ k := ml_le
    show ∃ s', f_X12_next_s75 s1 (nI o) (nI (bi V 16)) x3 x4 (nI q) (nI (ml_ B C o q V k)) (nI k) = some (.inl s') ∧ _
    unfold f_X12_next_s75 f_X12_next_j127_75
    rw [if_neg (show ¬ (16 : Int32) ≤ nI k from nI_ge (b := 16) hk (by omega)), bi_nd (x12_ha (by omega) (by omega)), bi_tb, decide_eq_true hk, Bool.true_and]
    cases hV : V k with
    | false =>
      rw [if_pos (show nI (false).toNat = 0 from rfl)]
      refine ⟨_, rfl, ?_, by dsimp only; rw [nI_1], h1, fun i hi => ?_⟩
      · dsimp only
        rw [ml_n (by rw [hV]; decide)]
      · dsimp only
        rw [hA i hi, cn_s, hV]
        rfl
    | true =>
      obtain ⟨s2, e2, h2⟩ := x12_cb (o := o) (v := k) (q := q) (σ := s1) h.W (h.r.cg (by rw [h1.1]) (h1.2.2 305 (by omega) (by omega) (by omega) (by omega)) (h1.2.2 306 (by omega) (by omega) (by omega) (by omega))) h.L.2.1 (h.L.2.2.2.cg (by rw [h1.1]) (h1.2.2 315 (by omega) (by omega) (by omega) (by omega))) ho hk hq
      have y8 := yq_8 (C := C) (o := o) (q := q) (y := k.testBit (q / 10)) h.W ho
      rw [if_neg (show ¬ nI (true).toNat = 0 by decide), bi_nd e2]
      dsimp only
      have hst := cn_yq (B := B) (C := C) (o := o) (q := q) hV
      generalize hj : yq_ B C o q (k.testBit (q / 10)) = j at y8 hst ⊢
      have hc := cn_le (fun v => V v && decide (yq_ B C o q (v.testBit (q / 10)) = j)) k
      have hcell : cA s2 330 j = nI (cn (fun v => V v && decide (yq_ B C o q (v.testBit (q / 10)) = j)) k) := by
        rw [h2.2.2 330 (by omega) (by omega) (by omega)]
        exact hA j (by omega)
      rw [gd_n (by omega) (by omega), gd_n (by omega) (by omega), gd_n (by omega) (by omega), nI_clamp (by omega), rAs, hcell, show (1 : Int32) = nI 1 from rfl, nI_add, nI_add, c_ltN (by omega) (by omega), nI_sI]
      refine ⟨_, rfl, ?_, rfl, h1.tr (h2.fn.tr ⟨rfl, rfl, fun p _ _ _ d => rAp d⟩), fun i hi => ?_⟩
      · dsimp only
        rw [hst]
        rfl
      · dsimp only
        by_cases e : i = j
        · subst e
          rw [rAs, cn_s, hV, Bool.true_and, decide_eq_true hj, if_pos rfl]
        · rw [rAj e, h2.2.2 330 (by omega) (by omega) (by omega), hA i hi, cn_s, hV, Bool.true_and, decide_eq_false (by rw [hj]; exact fun x => e x.symm)]
          rfl
  · obtain ⟨z1, z2, s1⟩ := z
    obtain ⟨rfl, rfl, h1, hA⟩ := hI
    dsimp only at h1
    refine ⟨(nI (ml_ B C o q V 16), s1), ?_, rfl, h1⟩
    show f_X12_next_s75 s1 (nI o) (nI (bi V 16)) x3 x4 (nI q) (nI (ml_ B C o q V 16)) (nI 16) = _
    unfold f_X12_next_s75
    rw [if_pos (by decide)]
theorem y_37 (χ σ : St) (a1 : Int32) (h : Rel_ χ σ) : ∃ (v : Int32) (χ1 : St) (σ1 : St), f_X11_next χ a1 = some (v, χ1) ∧ f_X12_next σ a1 = some (v, σ1) ∧ Rel_ χ1 σ1 := by
  obtain ⟨B, T, m, C, h⟩ := h
  have h0 := h.th
  unfold f_X11_next f_X12_next
  generalize sF σ 300 0 (0 : Int32) = σ0 at h0 ⊢
  rcases os_ca h0.W h0.b h0.r a1 with ⟨e1, e2⟩ | ⟨o, ho, rfl, e1, e2⟩
  · rw [bi_nd e1, bi_nd e2]
    exact ⟨_, _, _, rfl, rfl, h0.rel⟩
  rw [bi_nd e1, bi_nd e2, c1_0, c1_0, gd_t h.L.i1]
  obtain ⟨V, χ1, σ1, e3, e4, h1⟩ := rl_vo h0 ho
  rw [bi_nd e3, bi_nd e4]
  dsimp only
  by_cases hz : nI (bi V 16) = 0
  · rw [if_pos hz, if_pos hz]
    exact ⟨_, _, _, rfl, rfl, h1.rel⟩
  rw [if_neg hz, if_neg hz]
  obtain ⟨x, y, e5, e6, bq, M, hM, hx3, hy3, hx, hy, h2⟩ := it_twn (st1 := fun z : Int32 × Int32 × Int32 × St => f_X11_next_s46 z.2.2.2 (nI o) (nI (bi V 16)) z.1 z.2.1 z.2.2.1) (st2 := fun z : Int32 × Int32 × Int32 × St => f_X12_next_s38 z.2.2.2 (nI o) (nI (bi V 16)) z.1 z.2.1 z.2.2.1) (s := ((0 : Int32), (17 : Int32), (0 : Int32), χ1)) (t := ((-1 : Int32), (1000000 : Int32), (0 : Int32), σ1))
    (fun q s t => s.2.2.1 = nI q ∧ t.2.2.1 = nI q ∧ Rl_ B T m C s.2.2.2 t.2.2.2 ∧ ((q = 0 ∧ s.2.1 = nI 17 ∧ t.2.1 = nI 1000000) ∨ (q ≠ 0 ∧ ∃ M, M ≤ 16 ∧ s.1 = t.1 ∧ s.2.1 = nI M ∧ t.2.1 = nI M)))
    (fun x y => ∃ (bq : Int32) (M : Nat), M ≤ 16 ∧ x.1 = bq ∧ y.1 = bq ∧ x.2.1 = nI M ∧ y.2.1 = nI M ∧ Rl_ B T m C x.2.2 y.2.2) 40 (by omega) ⟨rfl, rfl, h1, Or.inl ⟨rfl, rfl, rfl⟩⟩
    (fun q s t hq hI => by
      obtain ⟨u3, u4, u5, s1⟩ := s
      obtain ⟨v3, v4, v5, t1⟩ := t
      obtain ⟨rfl, rfl, hr, hc⟩ := hI
      dsimp only at hr hc
      obtain ⟨s2, k1, hr2⟩ := x11_ml hr ho hq V
      have mle : ml_ B C o q V 16 ≤ 16 := ml_le
      obtain ⟨t2, k2, w1, w2, w3, w4, w5, w6⟩ := it_row (step := fun z : Int32 × St => f_X12_next_s51 z.2 (nI o) (nI (bi V 16)) v3 v4 (nI q) (0 : Int32) z.1) (σ := t1) (p := 330) (o := 0) (N := 9) (f := fun _ => nI 0) (by omega)
        (fun j s hj _ _ _ _ _ => by
          show f_X12_next_s51 s (nI o) (nI (bi V 16)) v3 v4 (nI q) (0 : Int32) (nI j) = _
          unfold f_X12_next_s51
          rw [if_neg (show ¬ (8 : Int32) < nI j from fun e => absurd ((nI_ltI (a := 8) (by omega) (by omega)).mp e) (by omega)), gd_n (by omega) (by omega), nI_clamp (by omega), nI_1, Nat.zero_add]
          rfl)
        (fun s _ => by
          show f_X12_next_s51 s (nI o) (nI (bi V 16)) v3 v4 (nI q) (0 : Int32) (nI 9) = _
          unfold f_X12_next_s51
          rw [if_pos (by decide)])
      obtain ⟨x, k3, hx1, hx2⟩ := x12_ml hr2 ho hq V v3 v4 (τ := t2) ⟨w1, w2, fun p _ _ _ d => w4 p d⟩ (fun i hi => by have := w5 i hi; rw [Nat.zero_add] at this; exact this)
      obtain ⟨x1, x2⟩ := x
      dsimp only at hx1 hx2
      subst hx1
      show ∃ s' t', f_X11_next_s46 s1 (nI o) (nI (bi V 16)) u3 u4 (nI q) = some (.inl s') ∧ f_X12_next_s38 t1 (nI o) (nI (bi V 16)) v3 v4 (nI q) = some (.inl t') ∧ _
      unfold f_X11_next_s46 f_X12_next_s38
      rw [if_neg (show ¬ (40 : Int32) ≤ nI q from nI_ge (b := 40) hq (by omega)), if_neg (show ¬ (40 : Int32) ≤ nI q from nI_ge (b := 40) hq (by omega)), show (10 : Int32) = nI 10 from rfl, pk_div (by omega) (by omega) (by omega), pk_rn 10 (by omega) (by omega) (by omega), bi_nd k1, bi_nd k2, bi_nd k3]
      unfold f_X11_next_j85_46 f_X12_next_j146_38
      refine ⟨_, _, rfl, rfl, by dsimp only; rw [nI_1], by dsimp only; rw [nI_1], hr2.sc (SC_.rf _) (sr_FN hx2), Or.inr ⟨by omega, ?_⟩⟩
      dsimp only
      rcases hc with ⟨-, rfl, rfl⟩ | ⟨-, M, hM, rfl, rfl, rfl⟩
      · refine ⟨ml_ B C o q V 16, mle, ?_, ?_, ?_⟩
        · rw [if_neg (nI_ge (by omega) (by omega)), if_neg (nI_ge (by omega) (by omega))]
        · rw [if_neg (nI_ge (by omega) (by omega))]
        · rw [if_pos (nI_lt (by omega) (by omega))]
      · by_cases c : M ≤ ml_ B C o q V 16
        · refine ⟨M, hM, ?_, ?_, ?_⟩
          · rw [if_pos (nI_le c (by omega))]
          · rw [if_pos (nI_le c (by omega))]
          · rw [if_neg (fun e => absurd ((nI_ltI (by omega) (by omega)).mp e) (by omega))]
        · refine ⟨ml_ B C o q V 16, mle, ?_, ?_, ?_⟩
          · rw [if_neg (nI_ge (by omega) (by omega))]
          · rw [if_neg (nI_ge (by omega) (by omega))]
          · rw [if_pos (nI_lt (by omega) (by omega))])
    (fun s t hI => by
      obtain ⟨u3, u4, u5, s1⟩ := s
      obtain ⟨v3, v4, v5, t1⟩ := t
      obtain ⟨rfl, rfl, hr, hc⟩ := hI
      dsimp only at hr hc
      rcases hc with ⟨hc, -⟩ | ⟨-, M, hM, rfl, rfl, rfl⟩
      · exact absurd hc (by omega)
      refine ⟨(u3, nI M, s1), (u3, nI M, t1), ?_, ?_, u3, M, hM, rfl, rfl, rfl, rfl, hr⟩
      · show f_X11_next_s46 s1 (nI o) (nI (bi V 16)) u3 (nI M) (nI 40) = _
        unfold f_X11_next_s46
        rw [if_pos (by decide)]
      · show f_X12_next_s38 t1 (nI o) (nI (bi V 16)) u3 (nI M) (nI 40) = _
        unfold f_X12_next_s38
        rw [if_pos (by decide)])
  rw [bi_nd e5, bi_nd e6, hx, hy, hx3, hy3]
  obtain ⟨χ3, σ3, e7, e8, h3⟩ := rl_ad (rl_st h2) (by omega) (nI M).toInt64
  rw [bi_nd (x9_s0 _), bi_nd e7, bi_nd e8]
  exact ⟨_, _, _, rfl, rfl, h3.rel⟩
