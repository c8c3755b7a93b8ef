/-! LAYER 2: the class takes one sign. -/
def KR_ (w : Nat) (K : Ks_) (χ : St) : Prop := CR_ w K.1 K.2.1 χ ∧ DR_ w K.2.2.1 K.2.2.2.1 K.2.2.2.2.1 K.2.2.2.2.2 χ
theorem tq_a : ∀ c, c < 256 → dg c = true → (¬ nI c < (48 : Int32)) ∧ (¬ (57 : Int32) < nI c) ∧ nI c - (48 : Int32) = nI (c - 48) := by decide +kernel
theorem tq_b : ∀ c, c < 256 → dg c = false → nI c < (48 : Int32) ∨ (57 : Int32) < nI c := by decide +kernel
theorem tq_l : ∀ c, c < 256 → f_X5_isLetter (nI c) = some (if lc_ c = 0 then (0 : Int32) else 1) ∧ (lc_ c ≠ 0 → (1000 : Int32) + nI c = nI (en_ (lc_ c))) := by decide +kernel
theorem tq_o : ∀ c, c < 256 → f_X5_strengthOf (nI c) = some (nI (sn_ (oc_ c))) ∧ (oc_ c ≠ 0 → nI c = nI (ws_ (oc_ c)) ∧ sn_ (oc_ c) ≠ 0) ∧ (oc_ c = 0 → sn_ (oc_ c) = 0) ∧ sn_ (oc_ c) ≤ 4 := by decide +kernel
theorem en_d {v : Nat} (h : v < 1000) : nI v = nI (en_ v) := by rw [en_lo h]
section TAKE
variable {w n d : Nat} {m : Nat → Bool} {b : Bool} {o s : List Nat} {χ : St}
theorem DR_.s3 {x : Int32} (h : DR_ w n m d b χ) : DR_ w n m d b (sF χ w 3 x) := ⟨(rFj (by omega)).trans h.1, h.2.1, (rFj (by omega)).trans h.2.2.1, (rFj (by omega)).trans h.2.2.2⟩
theorem DR_.s6 (h : DR_ w n m d b χ) (d' : Nat) : DR_ w n m d' b (sF χ w 6 (nI d')) := ⟨(rFj (by omega)).trans h.1, h.2.1, rFs, (rFj (by omega)).trans h.2.2.2⟩
theorem DR_.s7 (h : DR_ w n m d b χ) (b' : Bool) : DR_ w n m d b' (sF χ w 7 (nI b'.toNat)) := ⟨(rFj (by omega)).trans h.1, h.2.1, (rFj (by omega)).trans h.2.2.1, rFs⟩
theorem DR_.s5 (h : DR_ w n m d b χ) {n' : Nat} (hn : n' ≤ n) : DR_ w n' m d b (sF χ w 5 (nI n')) := ⟨rFs, fun i hi => h.2.1 i (by omega), (rFj (by omega)).trans h.2.2.1, (rFj (by omega)).trans h.2.2.2⟩
theorem lf_a {i : Nat} {x : Int32} : LF_ w χ (sA χ (w + 3) i x) := ⟨rfl, rfl, fun _ _ => rfl, fun _ _ _ h => rAp h⟩
theorem cr_tl {r : List Nat} (h : CR_ w o r χ) (hr : r.length ≤ 40) : CR_ w o r.tail (sF χ w 3 (if (0 : Int32) < cF χ w 3 - (1 : Int32) then cF χ w 3 - (1 : Int32) else 0)) := by
  obtain ⟨h1, h2, h3, h4⟩ := h
  rw [h3]
  cases r with
  | nil => exact ⟨(rFj (by omega)).trans h1, h2, rFs, trivial⟩
  | cons a r =>
    rw [List.length_cons] at hr ⊢
    rw [nI_pred]
    refine ⟨(rFj (by omega)).trans h1, h2, rFs.trans ?_, h4.2.cg (fun _ _ => rfl)⟩
    by_cases c : r.length = 0
    · rw [show (a :: r).tail.length = 0 from c, c]; rfl
    · rw [if_pos (show (0 : Int32) < nI r.length from nI_lt (a := 0) (by omega) (by omega))]; rfl
theorem j73 (hC : CR_ w o s χ) (hD : DR_ w n m d b χ) : ∃ χ', f_X5_takeDigit_j73 w χ = some (1, χ') ∧ KR_ w (o, s, n, m, d + 1, true) χ' ∧ LF_ w χ χ' := by
  refine ⟨sF (sF χ w 6 (nI (d + 1))) w 7 (nI true.toNat), ?_, ⟨(hC.sF (by omega)).sF (by omega), (hD.s6 (d + 1)).s7 true⟩, LF_.sF.tr LF_.sF⟩
  unfold f_X5_takeDigit_j73
  rw [hD.2.2.1, nI_1]
  rfl
theorem j89 {q a : Nat} (hC : CR_ w o s χ) (hD : DR_ w n m d b χ) (hq : q ≤ 4) (hs : ∀ x, x ∈ s → okS x) (hl : o.length + s.length < 40) : ∃ χ', f_X5_takeBehindThing_j89 w χ (nI (ws_ a)) (nI q) = some (1, χ') ∧ KR_ w (o ++ rp_ q s, a :: rk_ q s, n, m, d, false) χ' ∧ LF_ w χ χ' := by
  obtain ⟨χ1, e1, h1, r1⟩ := x5_rl hq hs (by omega) hC
  have := rl_n q s
  obtain ⟨χ2, e2, h2, r2⟩ := x5_pu (a := a) h1 (by omega)
  unfold f_X5_takeBehindThing_j89
  rw [bi_nd e1, bi_nd e2]
  exact ⟨_, rfl, ⟨h2.sF (by omega), ((hD.rf r1).rf r2).s7 false⟩, (r1.tr r2).lf.tr LF_.sF⟩
theorem tk_n {K : Ks_} {c : Nat} (h : tk_ K c = none) {P : Ks_ → Prop} {Q : Prop} (hq : Q) : (tk_ K c = none ∧ Q) ∨ ∃ K', tk_ K c = some K' ∧ P K' := Or.inl ⟨h, hq⟩
theorem x5_tk {p c : Nat} (hC : CR_ w o s χ) (hD : DR_ w n m d b χ) (hI : KI_ p (o, s, n, m, d, b)) (hp : p < 40) (hc : c < 256) : (tk_ (o, s, n, m, d, b) c = none ∧ ∃ χ', f_X5_take χ w (nI c) = some (0, χ') ∧ CR_ w o s χ' ∧ LF_ w χ χ') ∨ ∃ K', tk_ (o, s, n, m, d, b) c = some K' ∧ ∃ χ', f_X5_take χ w (nI c) = some (1, χ') ∧ KR_ w K' χ' ∧ LF_ w χ χ' := by
  obtain ⟨i1, i2, i3, i4, i5⟩ := hI
  dsimp only at i1 i2 i3 i4 i5
  unfold f_X5_take tk_
  dsimp only
  by_cases c0 : dg c = true
  · have hd : 48 ≤ c ∧ c ≤ 57 := of_decide_eq_true c0
    obtain ⟨t1, t2, t3⟩ := tq_a c hc c0
    rw [if_pos c0, if_neg t1, if_neg t2, t3]
    unfold f_X5_takeDigit f_X5_takeDigit_j24
    rw [hD.2.2.1, hD.2.2.2]
    by_cases d3 : d = 3
    · rw [if_pos d3, if_pos (show nI d = 3 by rw [d3]; rfl), ob_s, gd_t nb_0]
      exact Or.inl ⟨rfl, χ, rfl, hC, LF_.rf w χ⟩
    rw [if_neg d3, if_neg (show ¬ nI d = 3 from fun x => d3 ((nI_eq (b := 3) (by omega) (by omega)).mp x))]
    by_cases d0 : d = 0
    · rw [if_pos d0, if_pos (show nI d = 0 by rw [d0]; rfl), if_pos (show nI d = 0 by rw [d0]; rfl)]
      by_cases hb : b = true
      · rw [if_pos hb, if_neg (show ¬ nI b.toNat = 0 by rw [hb]; decide), ob_s, gd_t nb_0]
        exact Or.inl ⟨rfl, χ, rfl, hC, LF_.rf w χ⟩
      rw [if_neg hb, if_pos (show nI b.toNat = 0 by rw [Bool.eq_false_iff.mpr hb]; rfl), en_d (show c - 48 < 1000 by omega)]
      obtain ⟨χ1, e1, h1, r1⟩ := x5_em (v := c - 48) hC (by omega)
      obtain ⟨χ2, e2, h2, r2⟩ := j73 h1 (hD.rf r1)
      rw [bi_nd e1, bi_nd e2, gd_t nb_1]
      rw [d0] at h2
      exact Or.inr ⟨_, rfl, χ2, rfl, h2, r1.lf.tr r2⟩
    · obtain ⟨o1, v, e, hv⟩ := i4 (by omega)
      have hv2 : v < 100 := by
        have hcc : d = 1 ∨ d = 2 := by omega
        rcases hcc with rfl | rfl <;> omega
      subst e
      rw [if_neg d0, if_neg (show ¬ nI d = 0 from nI_ne0 (by omega) (by omega)), if_neg (show ¬ nI d = 0 from nI_ne0 (by omega) (by omega)), dl_1, gl_1]
      obtain ⟨k1, k2, k3, k4⟩ := hC
      rw [len1] at k1 i1
      have kv : cA χ (w + 1) o1.length = nI (en_ v) := by
        have := k2 o1.length (by rw [len1]; omega)
        rw [gE_] at this
        exact this
      rw [k1, nI_pred, if_neg (nI_nle (by omega) (by omega)), gd_n (by omega) (by omega), gd_n (by omega) (by omega), nI_clamp (by omega), kv, en_lo (show v < 1000 by omega), show (10 : Int32) = nI 10 from rfl, pk_mul, nI_add, en_d (show 10 * v + (c - 48) < 1000 by omega)]
      have hC2 : CR_ w (o1 ++ [10 * v + (c - 48)]) s (sA χ (w + 1) o1.length (nI (en_ (10 * v + (c - 48))))) := by
        refine ⟨by rw [len1]; exact k1, fun i hi => ?_, k3, k4.cg (fun i hi => by rw [rAp (by omega)])⟩
        rw [len1] at hi
        by_cases q : i = o1.length
        · subst q; rw [rAs, gE_]
        · have := k2 i (by rw [len1]; omega)
          rw [gL_ _ _ _ (by omega)] at this
          rw [rAj q, gL_ _ _ _ (by omega)]; exact this
      have r1 : RF_ w χ (sA χ (w + 1) o1.length (nI (en_ (10 * v + (c - 48))))) := ⟨rfl, rfl, fun _ _ => rfl, fun _ _ _ => rfl, fun p a _ => rAp a⟩
      obtain ⟨χ2, e2, h2, r2⟩ := j73 hC2 (hD.rf r1)
      rw [bi_nd e2, gd_t nb_1]
      exact Or.inr ⟨_, rfl, χ2, rfl, h2, r1.lf.tr r2⟩
  have c0' : dg c = false := Bool.eq_false_iff.mpr c0
  rw [if_neg c0]
  have hj : (if nI c < (48 : Int32) then f_X5_take_j21 w χ (nI c) else (if (57 : Int32) < nI c then f_X5_take_j21 w χ (nI c) else (f_X5_takeDigit χ w (nI c - (48 : Int32))).bind (fun q7 => gd (nb q7.1) (some (q7.1, q7.2))))) = f_X5_take_j21 w χ (nI c) := by
    by_cases q : nI c < (48 : Int32)
    · rw [if_pos q]
    · rw [if_neg q, if_pos ((tq_b c hc c0').resolve_left q)]
  rw [hj]
  unfold f_X5_take_j21
  have hC1 : CR_ w o s (sF χ w 6 (0 : Int32)) := hC.sF (by omega)
  have hD1 : DR_ w n m 0 b (sF χ w 6 (0 : Int32)) := hD.s6 0
  have hL1 : LF_ w χ (sF χ w 6 (0 : Int32)) := LF_.sF
  generalize sF χ w 6 (0 : Int32) = χ1 at hC1 hD1 hL1 ⊢
  rw [hD1.2.2.2]
  by_cases hb : b = true
  · rw [if_pos hb, if_neg (show ¬ nI b.toNat = 0 by rw [hb]; decide)]
    unfold f_X5_takeBehindThing
    rw [hD1.1]
    by_cases c1 : c = 41
    · rw [if_pos c1, if_pos (show nI c = 41 by rw [c1]; rfl)]
      by_cases n0 : n = 0
      · rw [if_pos n0, if_pos (show nI n = 0 by rw [n0]; rfl), ob_s, gd_t nb_0]
        exact Or.inl ⟨rfl, χ1, rfl, hC1, hL1⟩
      rw [if_neg n0, if_neg (show ¬ nI n = 0 from nI_ne0 (by omega) (by omega)), show nI n - (1 : Int32) = nI (n - 1) by rw [show (1 : Int32) = nI 1 from rfl, pk_sub (by omega)]]
      obtain ⟨χ2, e2, h2, r2⟩ := x5_rl (q := 1) (by omega) i5 (by omega) (hC1.sF (j := 5) (x := nI (n - 1)) (by omega))
      have := rl_n 1 s
      rw [bi_nd (show f_X5_release (sF χ1 w 5 (nI (n - 1))) w (1 : Int32) = some χ2 from e2), ob_s, gd_t nb_1]
      refine Or.inr ⟨_, rfl, _, rfl, ⟨cr_tl h2 (by omega), ?_⟩, (hL1.tr LF_.sF).tr (r2.lf.tr LF_.sF)⟩
      have := ((hD1.s5 (n' := n - 1) (by omega)).rf r2)
      rw [hb] at this
      exact this.s3
    rw [if_neg c1, if_neg (show ¬ nI c = 41 from fun x => c1 ((nI_eq (b := 41) (by omega) (by omega)).mp x))]
    obtain ⟨g1, g2, g3, g4⟩ := tq_o c hc
    rw [bi_nd g1]
    by_cases o0 : oc_ c = 0
    · rw [if_pos o0, if_pos (show nI (sn_ (oc_ c)) = 0 by rw [g3 o0]; rfl), ob_s, gd_t nb_0]
      exact Or.inl ⟨rfl, χ1, rfl, hC1, hL1⟩
    obtain ⟨g5, g6⟩ := g2 o0
    rw [if_neg o0, if_neg (show ¬ nI (sn_ (oc_ c)) = 0 from nI_ne0 (by omega) (by omega))]
    unfold f_X5_takeBehindThing_j74
    by_cases s1 : sn_ (oc_ c) = 1
    · rw [if_pos s1, s1, if_pos (show nI 1 = (1 : Int32) from rfl), hD1.1, gd_n (by omega) (by omega), nI_clamp (by omega), hD1.2.1 n (Nat.le_refl n)]
      by_cases hm : m n = true
      · rw [if_pos hm, if_neg (show ¬ nI (m n).toNat = 0 by rw [hm]; decide), ob_s, gd_t nb_0]
        exact Or.inl ⟨rfl, χ1, rfl, hC1, hL1⟩
      rw [if_neg hm, if_pos (show nI (m n).toNat = 0 by rw [Bool.eq_false_iff.mpr hm]; rfl), if_pos (show nI 1 = (1 : Int32) from rfl), gd_n (by omega) (by omega), g5]
      have hD2 : DR_ w n (ub_ m n true) 0 b (sA χ1 (w + 3) n (vp_nar .boolean (1 : Int32))) := by
        refine ⟨hD1.1, fun i hi => ?_, hD1.2.2.1, hD1.2.2.2⟩
        unfold ub_
        by_cases q : i = n
        · subst q; rw [rAs, if_pos rfl, vb_1]; rfl
        · rw [rAj q, if_neg q]; exact hD1.2.1 i hi
      obtain ⟨χ2, e2, h2, r2⟩ := j89 (q := 1) (a := oc_ c) (hC1.sA (i := n) (x := vp_nar .boolean (1 : Int32))) hD2 (by omega) i5 (by omega)
      rw [bi_nd e2, gd_t nb_1]
      exact Or.inr ⟨_, rfl, χ2, rfl, h2, (hL1.tr lf_a).tr r2⟩
    · rw [if_neg s1, if_neg (show ¬ nI (sn_ (oc_ c)) = 1 from fun x => s1 ((nI_eq (b := 1) (by omega) (by omega)).mp x)), if_neg (show ¬ nI (sn_ (oc_ c)) = 1 from fun x => s1 ((nI_eq (b := 1) (by omega) (by omega)).mp x)), g5]
      obtain ⟨χ2, e2, h2, r2⟩ := j89 (q := sn_ (oc_ c)) (a := oc_ c) hC1 hD1 g4 i5 (by omega)
      rw [bi_nd e2, gd_t nb_1]
      exact Or.inr ⟨_, rfl, χ2, rfl, h2, hL1.tr r2⟩
  · have hb' : b = false := Bool.eq_false_iff.mpr hb
    rw [if_neg hb, if_pos (show nI b.toNat = 0 by rw [hb']; rfl)]
    unfold f_X5_takeAheadOfThing
    rw [hD1.1]
    rw [hb'] at hD1
    by_cases c1 : c = 45
    · rw [if_pos c1, if_pos (show nI c = 45 by rw [c1]; rfl)]
      obtain ⟨χ2, e2, h2, r2⟩ := x5_pu (a := 3000) hC1 (by omega)
      rw [bi_nd (show f_X5_push χ1 w (256 : Int32) = some χ2 from e2), ob_s, gd_t nb_1]
      exact Or.inr ⟨_, rfl, χ2, rfl, ⟨h2, hD1.rf r2⟩, hL1.tr r2.lf⟩
    rw [if_neg c1, if_neg (show ¬ nI c = 45 from fun x => c1 ((nI_eq (b := 45) (by omega) (by omega)).mp x))]
    by_cases c2 : c = 40
    · rw [if_pos c2, if_pos (show nI c = 40 by rw [c2]; rfl)]
      by_cases n4 : 4 ≤ n
      · rw [if_pos n4, if_neg (show ¬ nI n < (4 : Int32) from nI_nlt (b := 4) n4 (by omega)), ob_s, gd_t nb_0]
        exact Or.inl ⟨rfl, χ1, rfl, hC1, hL1⟩
      rw [if_neg n4, if_pos (show nI n < (4 : Int32) from nI_lt (b := 4) (by omega) (by omega)), nI_1, rFs, gd_n (by omega) (by omega), nI_clamp (by omega), c2]
      obtain ⟨χ2, e2, h2, r2⟩ := x5_pu (a := 40) ((hC1.sF (j := 5) (x := nI (n + 1)) (by omega)).sA (i := n + 1) (x := vp_nar .boolean (0 : Int32))) (by omega)
      rw [bi_nd (show f_X5_push (sA (sF χ1 w 5 (nI (n + 1))) (w + 3) (n + 1) (vp_nar .boolean (0 : Int32))) w (nI 40) = some χ2 from e2), ob_s, gd_t nb_1]
      refine Or.inr ⟨_, rfl, χ2, rfl, ⟨h2, DR_.rf ⟨?_, fun i hi => ?_, ?_, ?_⟩ r2⟩, ((hL1.tr LF_.sF).tr lf_a).tr r2.lf⟩
      · exact rFs
      · show _ = nI (ub_ m (n + 1) false i).toNat
        unfold ub_
        by_cases q : i = n + 1
        · subst q; rw [rAs, if_pos rfl, vb_0]; rfl
        · rw [rAj q, if_neg q, rAF]; exact hD1.2.1 i (by have : i ≤ n + 1 := hi; omega)
      · exact (rFj (by omega)).trans hD1.2.2.1
      · exact (rFj (by omega)).trans hD1.2.2.2
    rw [if_neg c2, if_neg (show ¬ nI c = 40 from fun x => c2 ((nI_eq (b := 40) (by omega) (by omega)).mp x))]
    obtain ⟨g1, g2⟩ := tq_l c hc
    rw [bi_nd g1]
    by_cases l0 : lc_ c = 0
    · rw [if_pos l0, if_pos l0, if_pos rfl, ob_s, gd_t nb_0]
      exact Or.inl ⟨rfl, χ1, rfl, hC1, hL1⟩
    rw [if_neg l0, if_neg l0, if_neg (by decide), g2 l0]
    obtain ⟨χ2, e2, h2, r2⟩ := x5_em (v := lc_ c) hC1 (by omega)
    rw [bi_nd e2, ob_s, gd_t nb_1]
    exact Or.inr ⟨_, rfl, _, rfl, ⟨h2.sF (by omega), (hD1.rf r2).s7 true⟩, (hL1.tr r2.lf).tr LF_.sF⟩
end TAKE
