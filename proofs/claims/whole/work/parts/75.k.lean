/-! LAYER 2: the class reads a rule. -/
def f0_ (k : Nat) : Nat := [118, 42, 57, 45, 102, 43, 119].getD k 0
def K0_ : Ks_ := ([], [], 0, fun _ => false, 0, false)
theorem x5_start (χ : St) (w : Nat) : ∃ χ', f_X5_start χ w = some χ' ∧ KR_ w K0_ χ' ∧ LF_ w χ χ' := by
  refine ⟨sF (sF (sA (sF (sF (sF χ w 1 (nI 0)) w 3 (nI 0)) w 5 (nI 0)) (w + 3) 0 (vp_nar .boolean (nI 0))) w 6 (nI 0)) w 7 (nI 0), by unfold f_X5_start; rw [show (0 : Int32) = nI 0 from rfl, gd_n (by omega) (by omega), nI_clamp (by omega)], ⟨⟨?_, fun i hi => absurd hi (Nat.not_lt_zero i), ?_, trivial⟩, ?_, fun i hi => ?_, ?_, ?_⟩, rfl, rfl, fun p hp => ?_, fun p a b c => ?_⟩
  · rw [rFj (by omega), rFj (by omega), rFA, rFj (by omega), rFj (by omega), rFs]; rfl
  · rw [rFj (by omega), rFj (by omega), rFA, rFj (by omega), rFs]; rfl
  · rw [rFj (by omega), rFj (by omega), rFA, rFs]; rfl
  · have e : i = 0 := Nat.le_zero.mp hi
    subst e
    rw [rAF, rAF, rAs]
    exact vb_0
  · rw [rFj (by omega), rFs]; rfl
  · rw [rFs]; rfl
  · rw [rFp hp, rFp hp, rFA, rFp hp, rFp hp, rFp hp]
  · rw [rAF, rAF, rAp c]; rfl
/-- the signs of the text, up to p -/
theorem x5_si {w p : Nat} {T : Nat × (Nat → Nat)} {χ σ : St} {K : Ks_} (hw : w = 16 ∨ w = 21) (hT : RT T χ σ) (h0 : KR_ w K0_ χ) (hK : KS_ T.2 p = some K) (hp : p ≤ min T.1 40) (he : p = min T.1 40 ∨ (p < min T.1 40 ∧ tk_ K (T.2 p) = none)) : ∃ χ', f_X5_readSigns χ w = some (if p < min T.1 40 then nI p else if T.1 ≤ 40 then (if K.2.2.2.2.2 = true ∧ K.2.2.1 = 0 then -1 else nI T.1) else nI 40, χ') ∧ CR_ w K.1 K.2.1 χ' ∧ LF_ w χ χ' := by
  obtain ⟨t1, t2, t3, t4⟩ := id hT
  have hLc : (T.1 ≤ 40 ∧ min T.1 40 = T.1) ∨ (40 < T.1 ∧ min T.1 40 = 40) := by omega
  have hy : (if (40 : Int32) < nI T.1 then (40 : Int32) else nI T.1) = nI (min T.1 40) := by
    rcases hLc with ⟨q, e⟩ | ⟨q, e⟩
    · rw [e, if_neg (show ¬ (40 : Int32) < nI T.1 from fun x => absurd ((nI_ltI (a := 40) (by omega) (by omega)).mp x) (by omega))]
    · rw [e, if_pos (show (40 : Int32) < nI T.1 from nI_lt (a := 40) q (by omega))]; rfl
  unfold f_X5_readSigns
  rw [t2, hy]
  obtain ⟨x, e1, hx⟩ := it_inv (step := fun z : Int32 × St => f_X5_readSigns_s12 w z.2 (nI (min T.1 40)) z.1) (s := ((0 : Int32), χ)) (fun (k : Nat) (z : Int32 × St) => z.1 = nI k ∧ LF_ w χ z.2 ∧ ∃ K1, KS_ T.2 k = some K1 ∧ KR_ w K1 z.2) (fun x => (p < min T.1 40 ∧ ∃ χ', x = .inl (nI p, χ') ∧ CR_ w K.1 K.2.1 χ' ∧ LF_ w χ χ') ∨ (p = min T.1 40 ∧ ∃ χ', x = .inr χ' ∧ KR_ w K χ' ∧ LF_ w χ χ')) p (by omega) ⟨rfl, LF_.rf w χ, K0_, rfl, h0⟩
    (fun k z hk hI => by
      obtain ⟨z1, s⟩ := z
      obtain ⟨rfl, hL, ⟨o, st, n, m, d, b⟩, hK1, hR⟩ := hI
      dsimp only at hL hR
      have hT2 : RT T s σ := hT.cg (hL.2.2.1 1 (by omega)) (hL.2.2.2 2 (by omega) (by omega) (by omega)) rfl rfl
      obtain ⟨K2, hK2⟩ := KS_p hK (k + 1) (by omega)
      show ∃ s', f_X5_readSigns_s12 w s (nI (min T.1 40)) (nI k) = some (.inl s') ∧ _
      unfold f_X5_readSigns_s12
      rw [if_neg (nI_ge (by omega) (by omega)), bi_nd (x8_at hT2 (i := k) (by omega))]
      have hI := KI_f k hK1
      rw [KS_s hK1] at hK2
      rcases x5_tk hR.1 hR.2 hI (by omega) (t4 k (by omega)).1 with ⟨e, -⟩ | ⟨K3, e, s', e2, e3, e4⟩
      · rw [e] at hK2; cases hK2
      · rw [bi_nd e2, nI_1]
        exact ⟨_, rfl, rfl, hL.tr e4, K3, (KS_s hK1).trans e, e3⟩)
    (fun z hI => by
      obtain ⟨z1, s⟩ := z
      obtain ⟨rfl, hL, ⟨o, st, n, m, d, b⟩, hK1, hR⟩ := hI
      dsimp only at hL hR
      have e : K = (o, st, n, m, d, b) := Option.some.inj (hK.symm.trans hK1)
      subst e
      have hT2 : RT T s σ := hT.cg (hL.2.2.1 1 (by omega)) (hL.2.2.2 2 (by omega) (by omega) (by omega)) rfl rfl
      show ∃ x, f_X5_readSigns_s12 w s (nI (min T.1 40)) (nI p) = some (.inr x) ∧ _
      unfold f_X5_readSigns_s12
      rcases he with e | ⟨e, hn⟩
      · rw [if_pos (nI_le (by omega) (by omega))]
        exact ⟨_, rfl, Or.inr ⟨e, s, rfl, hR, hL⟩⟩
      · rw [if_neg (nI_ge (by omega) (by omega)), bi_nd (x8_at hT2 (i := p) (by omega))]
        rcases x5_tk hR.1 hR.2 (KI_f p hK) (by omega) (t4 p (by omega)).1 with ⟨-, s', e2, e3, e4⟩ | ⟨K3, e5, -⟩
        · rw [bi_nd e2, if_pos rfl]
          exact ⟨_, rfl, Or.inl ⟨e, s', rfl, e3, hL.tr e4⟩⟩
        · rw [hn] at e5; cases e5)
  rcases hx with ⟨c, χ', rfl, h1, h2⟩ | ⟨c, χ', rfl, h1, h2⟩
  · rw [if_pos c]
    exact ⟨χ', bi_nd e1, h1, h2⟩
  · refine ⟨χ', (bi_nd e1).trans ?_, h1.1, h2⟩
    rw [if_neg (by omega)]
    show some (_, χ') = some (_, χ')
    rw [h2.2.2.1 1 (by omega), t2, h1.2.2.2.2, h1.2.1]
    have n4 := (KI_f p hK).2.1
    by_cases q : T.1 ≤ 40
    · rw [if_pos q, if_pos (show nI T.1 ≤ (40 : Int32) from nI_le (b := 40) q (by omega)), show min T.1 40 = T.1 by omega]
      by_cases hb : K.2.2.2.2.2 = true
      · rw [if_neg (show ¬ nI K.2.2.2.2.2.toNat = 0 by rw [hb]; decide)]
        by_cases n0 : K.2.2.1 = 0
        · rw [if_pos (show nI K.2.2.1 = 0 by rw [n0]; rfl), if_pos ⟨hb, n0⟩]
        · rw [if_neg (show ¬ nI K.2.2.1 = 0 from nI_ne0 (by omega) (by omega)), if_neg (fun x => n0 x.2)]
      · rw [if_pos (show nI K.2.2.2.2.2.toNat = 0 by rw [Bool.eq_false_iff.mpr hb]; rfl), if_neg (fun x => hb x.1)]
    · rw [if_neg q, if_neg (show ¬ nI T.1 ≤ (40 : Int32) from nI_ge (a := 40) (by omega) (by omega))]; rfl
theorem f0_ok : (KS_ f0_ 7).isSome = true := by decide +kernel
theorem f0_k : ∃ K, KS_ f0_ 7 = some K ∧ K.1 ++ rp_ 0 K.2.1 = [1001, 9, 2005, 1000, 2004, 1003, 2003] ∧ ∀ k, k < 7 → f0_ k < 256 ∧ ([118, 42, 57, 45, 102, 43, 119] : List Int32).getD k 0 = nI (f0_ k) := by
  refine ⟨_, rfl, by decide, by decide⟩
theorem x5_no {w : Nat} {χ : St} (h0 : KR_ w K0_ χ) {K : Ks_} (hK : KS_ f0_ 7 = some K) (hk : ∀ k, k < 7 → f0_ k < 256 ∧ ([118, 42, 57, 45, 102, 43, 119] : List Int32).getD k 0 = nI (f0_ k)) : ∃ χ', f_X5_readNone χ w = some (-1, χ') ∧ KR_ w K χ' ∧ LF_ w χ χ' := by
  unfold f_X5_readNone
  obtain ⟨x, e1, h1, h2⟩ := it_inv (step := fun z : Int32 × St => f_X5_readNone_s2 w z.2 z.1) (s := ((0 : Int32), χ)) (fun (k : Nat) (z : Int32 × St) => z.1 = nI k ∧ LF_ w χ z.2 ∧ ∃ K1, KS_ f0_ k = some K1 ∧ KR_ w K1 z.2) (fun x => KR_ w K x ∧ LF_ w χ x) 7 (by omega) ⟨rfl, LF_.rf w χ, K0_, rfl, h0⟩
    (fun k z hk7 hI => by
      obtain ⟨z1, s⟩ := z
      obtain ⟨rfl, hL, ⟨o, st, n, m, d, b⟩, hK1, hR⟩ := hI
      dsimp only at hL hR
      obtain ⟨K2, hK2⟩ := KS_p hK (k + 1) (by omega)
      show ∃ s', f_X5_readNone_s2 w s (nI k) = some (.inl s') ∧ _
      unfold f_X5_readNone_s2
      rw [if_neg (show ¬ (7 : Int32) ≤ nI k from nI_ge (b := 7) hk7 (by omega)), gd_n (by omega) (by omega), nI_clamp (by omega), (hk k hk7).2]
      rw [KS_s hK1] at hK2
      rcases x5_tk hR.1 hR.2 (KI_f k hK1) (by omega) (hk k hk7).1 with ⟨e, -⟩ | ⟨K3, e, s', e2, e3, e4⟩
      · rw [e] at hK2; cases hK2
      · rw [bi_nd e2, nI_1]
        exact ⟨_, rfl, rfl, hL.tr e4, K3, (KS_s hK1).trans e, e3⟩)
    (fun z hI => by
      obtain ⟨z1, s⟩ := z
      obtain ⟨rfl, hL, K1, hK1, hR⟩ := hI
      dsimp only at hL hR
      have e : K = K1 := Option.some.inj (hK.symm.trans hK1)
      subst e
      show ∃ x, f_X5_readNone_s2 w s (nI 7) = some (.inr x) ∧ _
      unfold f_X5_readNone_s2
      rw [if_pos (show (7 : Int32) ≤ nI 7 by decide)]
      exact ⟨_, rfl, hR, hL⟩)
  exact ⟨x, bi_nd e1, h1, h2⟩
theorem x5_rd0 {w : Nat} {T : Nat × (Nat → Nat)} {χ σ : St} (hw : w = 16 ∨ w = 21) (hT : RT T χ σ) (hT0 : T.1 = 0) : ∃ χ', f_X5_read χ w = some (-1, χ') ∧ LC_ w d0_ χ' ∧ LF_ w χ χ' := by
  obtain ⟨χ1, e1, h1, l1⟩ := x5_start χ w
  obtain ⟨K, hK, ho, hk⟩ := f0_k
  obtain ⟨χ2, e2, h2, l2⟩ := x5_no h1 hK hk
  have hI := KI_f 7 hK
  obtain ⟨χ3, e3, h3, l3⟩ := x5_rl (q := 0) (by omega) hI.2.2.2.2 (by have := hI.1; omega) h2.1
  refine ⟨χ3, ?_, ?_, (l1.tr l2).tr l3.lf⟩
  · unfold f_X5_read f_X5_read_j23
    rw [bi_nd e1, l1.2.2.1 1 (by omega), hT.2.1, hT0, if_pos (show nI 0 = 0 from rfl), bi_nd e2, bi_nd (show f_X5_release χ2 w (0 : Int32) = some χ3 from e3)]
  · rw [ho] at h3
    exact ⟨h3.1, fun i hi => h3.2.1 i hi⟩
theorem x5_rd {w p : Nat} {T : Nat × (Nat → Nat)} {χ σ : St} {K : Ks_} (hw : w = 16 ∨ w = 21) (hT : RT T χ σ) (hT0 : 0 < T.1) (hK : KS_ T.2 p = some K) (hp : p ≤ min T.1 40) (he : p = min T.1 40 ∨ (p < min T.1 40 ∧ tk_ K (T.2 p) = none)) : ∃ χ', f_X5_read χ w = some (if p < min T.1 40 then nI p else if T.1 ≤ 40 then (if K.2.2.2.2.2 = true ∧ K.2.2.1 = 0 then -1 else nI T.1) else nI 40, χ') ∧ LC_ w ((K.1 ++ rp_ 0 K.2.1).length, fun i => (K.1 ++ rp_ 0 K.2.1).getD i 0) χ' ∧ LF_ w χ χ' := by
  have t80 := hT.1
  obtain ⟨χ1, e1, h1, l1⟩ := x5_start χ w
  have hT1 : RT T χ1 σ := hT.cg (l1.2.2.1 1 (by omega)) (l1.2.2.2 2 (by omega) (by omega) (by omega)) rfl rfl
  obtain ⟨χ2, e2, h2, l2⟩ := x5_si hw hT1 h1 hK hp he
  have hI := KI_f p hK
  obtain ⟨χ3, e3, h3, l3⟩ := x5_rl (q := 0) (by omega) hI.2.2.2.2 (by have := hI.1; omega) h2
  refine ⟨χ3, ?_, ⟨h3.1, fun i hi => h3.2.1 i hi⟩, (l1.tr l2).tr l3.lf⟩
  unfold f_X5_read f_X5_read_j23
  rw [bi_nd e1, hT1.2.1, if_neg (show ¬ nI T.1 = 0 from nI_ne0 (by omega) (by omega)), bi_nd e2, bi_nd (show f_X5_release χ2 w (0 : Int32) = some χ3 from e3)]
