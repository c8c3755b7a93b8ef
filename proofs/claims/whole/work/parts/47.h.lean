/-! LAYER 2: games: firm, wordings. -/
theorem lN_or (a b : Nat) : lN a ||| lN b = lN (a ||| b) := by
  apply Int64.toBitVec_inj.1
  show BitVec.ofNat 64 a ||| BitVec.ofNat 64 b = BitVec.ofNat 64 (a ||| b)
  apply BitVec.eq_of_getLsbD_eq
  intro i hi
  simp [hi]
theorem lN_an (a b : Nat) : lN a &&& lN b = lN (a &&& b) := by
  apply Int64.toBitVec_inj.1
  show BitVec.ofNat 64 a &&& BitVec.ofNat 64 b = BitVec.ofNat 64 (a &&& b)
  apply BitVec.eq_of_getLsbD_eq
  intro i hi
  simp [hi]
theorem sl_63 : ∀ n, n < 64 → ((lN n &&& 63).toBitVec.smod 64).toNat = n := by decide +kernel
theorem shl_1 : ∀ k, k < 62 → (1 : Int64) <<< (lN k &&& 63) = lN (2 ^ k) := by decide +kernel
theorem shl_r {a k : Nat} (ha : a < 2 ^ 63) (hk : k < 64) : lN a >>> (lN k &&& 63) = lN (a / 2 ^ k) := by
  have h2 : a / 2 ^ k ≤ a := Nat.div_le_self _ _
  have e : (lN a >>> (lN k &&& 63)).toInt = (lN a).toInt >>> k := by
    show ((lN a).toBitVec.sshiftRight ((lN k &&& 63).toBitVec.smod 64).toNat).toInt = _
    rw [sl_63 k hk, BitVec.toInt_sshiftRight]
    rfl
  apply Int64.toInt_inj.mp
  rw [e, lN_ti ha, lN_ti (by omega), Int.shiftRight_eq_div_pow]
  rfl
theorem hal_n {a k : Nat} (ha : a < 2 ^ 63) (hk : k < 64) : (lN a >>> (lN k &&& 63)) &&& (1 : Int64) = lN (a.testBit k).toNat := by
  rw [shl_r ha hk, show (1 : Int64) = lN 1 from rfl, lN_an, Nat.and_one_is_mod, Nat.toNat_testBit]
/-- one, or a prime number -/
def ct_ (t : Nat) : Bool := f_X12_mayTake (nI t) == some 1
theorem ct_ok : al_ (fun t => (f_X12_mayTake (nI t) == some (nI (ct_ t).toNat)) && (f_X3_canBeTaken (nI t) == some (nI (ct_ t).toNat))) 31 = true := by decide +kernel
theorem ct_1 {t : Nat} (h : t < 31) : f_X12_mayTake (nI t) = some (nI (ct_ t).toNat) ∧ f_X3_canBeTaken (nI t) = some (nI (ct_ t).toNat) := by
  have h1 := al_s ct_ok t h
  rw [Bool.and_eq_true] at h1
  exact ⟨eq_of_beq h1.1, eq_of_beq h1.2⟩
/-- the least that can be taken so that w is 0 there, from t on, d of them -/
def ls_ (w : Nat → Nat) (m : Nat) : Nat → Nat → Nat
  | 0, _ => 0
  | d + 1, t => if ct_ t = true ∧ w (m - t) = 0 then t else ls_ w m d (t + 1)
theorem ls_s (w : Nat → Nat) (m d t : Nat) : ls_ w m (d + 1) t = if ct_ t = true ∧ w (m - t) = 0 then t else ls_ w m d (t + 1) := rfl
theorem ls_le (w : Nat → Nat) (m : Nat) : ∀ d t, ls_ w m d t = 0 ∨ ls_ w m d t < t + d := by
  intro d
  induction d with
  | zero => intro t; exact Or.inl rfl
  | succ d ih =>
    intro t
    rw [ls_s]
    split
    · exact Or.inr (by omega)
    · have := ih (t + 1); omega
/-- by which number the first wins out of m -/
def wt_ (k : Nat) : Nat → Nat → Nat
  | 0 => fun _ => 1
  | m + 1 => fun i => if i ≤ m then wt_ k m i else ls_ (wt_ k m) (m + 1) (min k (m + 1)) 1
theorem wt_s (k m i : Nat) : wt_ k (m + 1) i = if i ≤ m then wt_ k m i else ls_ (wt_ k m) (m + 1) (min k (m + 1)) 1 := rfl
theorem wt_st (k : Nat) : ∀ m i, i ≤ m → wt_ k m i = wt_ k i i := by
  intro m
  induction m with
  | zero => intro i hi; rw [show i = 0 by omega]
  | succ m ih =>
    intro i hi
    by_cases h : i ≤ m
    · rw [wt_s, if_pos h]; exact ih i h
    · rw [show i = m + 1 by omega]
theorem ls_ex {w v : Nat → Nat} {m : Nat} : ∀ d t, (∀ s, t ≤ s → s < t + d → w (m - s) = v (m - s)) → ls_ w m d t = ls_ v m d t := by
  intro d
  induction d with
  | zero => intro t _; rfl
  | succ d ih =>
    intro t h
    rw [ls_s, ls_s, h t (by omega) (by omega), ih (t + 1) (fun s h1 h2 => h s (by omega) (by omega))]
theorem wt_b {k : Nat} (m : Nat) : wt_ k m m ≤ 60 ∨ 60 < m := by
  cases m with
  | zero => exact Or.inl (show 1 ≤ 60 by omega)
  | succ m =>
    rw [wt_s, if_neg (by omega)]
    have h := ls_le (wt_ k m) (m + 1) (min k (m + 1)) 1
    omega
/-- the class's search -/
theorem x3_wt {w : Nat → Nat} {m k N : Nat} (hk : k ≤ 30) (hm : m ≤ 60) (hm1 : 1 ≤ m) (hN : m ≤ N) (hN2 : N ≤ 62) : f_X3_winningTake (lN (bi (fun i => decide (w i ≠ 0)) N)) (nI m) (nI k) = some (nI (ls_ w m (min k m) 1)) := by
  have hb : bi (fun i => decide (w i ≠ 0)) N < 2 ^ 62 := Nat.lt_of_lt_of_le (bi_lt _ _) (Nat.pow_le_pow_right (by omega) hN2)
  obtain ⟨x, e, hx⟩ := it_inx (step := fun z : Int32 => f_X3_winningTake_s3 (lN (bi (fun i => decide (w i ≠ 0)) N)) (nI m) (nI k) z) (s := (1 : Int32))
    (fun j z => z = nI (1 + j) ∧ ls_ w m (min k m) 1 = ls_ w m (min k m - j) (1 + j)) (fun x => x = .inl (nI (ls_ w m (min k m) 1)) ∨ (x = .inr () ∧ ls_ w m (min k m) 1 = 0)) (min k m) (by omega) ⟨rfl, rfl⟩
    (fun j z hj hI => by
      obtain ⟨rfl, hI⟩ := hI
      show (j < min k m ∧ ∃ s', f_X3_winningTake_s3 (lN (bi (fun i => decide (w i ≠ 0)) N)) (nI m) (nI k) (nI (1 + j)) = some (.inl s') ∧ _) ∨ ∃ x, f_X3_winningTake_s3 (lN (bi (fun i => decide (w i ≠ 0)) N)) (nI m) (nI k) (nI (1 + j)) = some (.inr x) ∧ _
      unfold f_X3_winningTake_s3 f_X3_winningTake_j39_3
      by_cases hj2 : j < min k m
      · have ht := (ct_1 (t := 1 + j) (by omega)).2
        have htb : (bi (fun i => decide (w i ≠ 0)) N).testBit (m - (1 + j)) = decide (w (m - (1 + j)) ≠ 0) := by rw [bi_tb, decide_eq_true (show m - (1 + j) < N by omega)]; rfl
        rw [show min k m - j = (min k m - (j + 1)) + 1 by omega, ls_s] at hI
        simp (disch := omega) only [c_ltF, ht, ob_s, li_0, li_1, pk_sub, nI_to, hal_n, htb, nI_add]
        by_cases hc : ct_ (1 + j) = true
        · rw [hc, c_eqF (by decide) (by decide) (by decide)]
          by_cases hw : w (m - (1 + j)) = 0
          · rw [if_pos ⟨hc, hw⟩] at hI
            rw [decide_eq_false (fun q => q hw), if_pos (show lg_cmp (lN (false).toNat) 0 = nI 0 from lg_0T rfl)]
            exact Or.inr ⟨_, rfl, Or.inl (by rw [hI])⟩
          · rw [if_neg (fun q => hw q.2)] at hI
            rw [decide_eq_true hw, if_neg (show ¬ lg_cmp (lN (true).toNat) 0 = nI 0 from lg_0F (n := 1) (by decide) (by decide))]
            exact Or.inl ⟨hj2, _, rfl, rfl, hI⟩
        · rw [if_neg (fun q => hc q.1)] at hI
          rw [Bool.eq_false_iff.mpr hc, if_pos (show nI (false).toNat = nI 0 from rfl)]
          exact Or.inl ⟨hj2, _, rfl, rfl, hI⟩
      · rw [show min k m - j = 0 by omega] at hI
        refine Or.inr ⟨.inr (), ?_, Or.inr ⟨rfl, hI⟩⟩
        by_cases hq : k < 1 + j
        · simp (disch := omega) only [c_ltT]
        · simp (disch := omega) only [c_ltF, c_ltT])
  unfold f_X3_winningTake
  rw [bi_nd e]
  rcases hx with rfl | ⟨rfl, hx⟩
  · rfl
  · rw [hx]; rfl
theorem x3_ft {n k : Nat} (hk : k ≤ 30) (hk2 : 2 ≤ k) (hn : n ≤ 60) (hn1 : 1 ≤ n) : f_X3_firstTake (nI n) (nI k) = some (nI (wt_ k n n)) := by
  have ext : ∀ m, 1 ≤ m → m ≤ 60 → ls_ (fun i => wt_ k i i) m (min k m) 1 = wt_ k m m := by
    intro m h1 h2
    cases m with
    | zero => omega
    | succ m =>
      rw [wt_s, if_neg (by omega)]
      exact ls_ex _ _ (fun s h3 h4 => (wt_st k m (m + 1 - s) (by omega)).symm)
  have e1 : iter (fun z : Int64 × Int32 => f_X3_firstTake_s5 (nI n) (nI k) z.1 z.2) FU ((1 : Int64), (1 : Int32)) = some (lN (bi (fun i => decide (wt_ k i i ≠ 0)) n)) := by
    refine it_for (fun j => (lN (bi (fun i => decide (wt_ k i i ≠ 0)) (j + 1)), nI (j + 1))) (n - 1) (by omega) (by
      show (lN (bi (fun i => decide (wt_ k i i ≠ 0)) 1), nI 1) = _
      rw [bi_s, if_pos (show decide (wt_ k 0 0 ≠ 0) = true from rfl), bi_0, show (0 : Nat) ||| 2 ^ 0 = 1 from rfl]
      rfl) (fun j hj => ?_) ?_
    · have e2 := x3_wt (w := fun i => wt_ k i i) (m := j + 1) (k := k) (N := j + 1) hk (by omega) (by omega) (Nat.le_refl _) (by omega)
      rw [ext (j + 1) (by omega) (by omega)] at e2
      have hb := wt_b (k := k) (j + 1)
      show f_X3_firstTake_s5 (nI n) (nI k) (lN (bi (fun i => decide (wt_ k i i ≠ 0)) (j + 1))) (nI (j + 1)) = _
      unfold f_X3_firstTake_s5 f_X3_firstTake_j28_5
      simp (disch := omega) only [c_leF, e2, ob_s, li_0, li_1, nI_to, shl_1, lN_or, nI_add]
      rw [bi_s _ (j + 1)]
      by_cases hz : wt_ k (j + 1) (j + 1) = 0
      · rw [hz, if_pos (by decide), if_neg (by simp), Nat.or_zero]
      · rw [if_neg (nI_ge (by omega) (by omega)), if_pos (decide_eq_true hz)]
    · show f_X3_firstTake_s5 (nI n) (nI k) _ (nI (n - 1 + 1)) = _
      unfold f_X3_firstTake_s5
      simp (disch := omega) only [c_leT]
      rw [show n - 1 + 1 = n by omega]
  unfold f_X3_firstTake
  rw [bi_nd e1, bi_nd (x3_wt (w := fun i => wt_ k i i) (m := n) (k := k) (N := n) hk hn hn1 (Nat.le_refl _) (by omega)), ext n hn1 hn]
theorem y_44 (χ σ : St) (a1 a2 : Int32) (h : Rel_ χ σ) : ∃ (v : Int32) (σ1 : St), f_X11_firm a1 a2 = some v ∧ f_X12_firm σ a1 a2 = some (v, σ1) ∧ Rel_ χ σ1 := by
  obtain ⟨B, T, m, C, h⟩ := h
  have h0 := h.th
  unfold f_X11_firm f_X12_firm
  generalize sF σ 300 0 (0 : Int32) = σ0 at h0 ⊢
  rcases in_ca a1 0 60 (by omega) (by omega) with ⟨q1, q2⟩ | ⟨n, -, hn, rfl, q1⟩
  · refine ⟨-1, σ0, ?_, ?_, h0.rel⟩
    · by_cases hz : a1 < 0
      · rw [if_pos hz]
      · rw [if_neg hz, if_pos (show (60 : Int32) < a1 from q2.resolve_left hz)]
    · rw [bi_nd (show f_X12_in a1.toInt64 (0 : Int64) (60 : Int64) = some 0 from q1)]; rfl
  rw [if_neg (show ¬ nI n < 0 from nI_pos (by omega)), if_neg (show ¬ (60 : Int32) < nI n from nI_nlt (a := 60) hn (by omega)), bi_nd (show f_X12_in (nI n).toInt64 (0 : Int64) (60 : Int64) = some 1 from q1), c1_0]
  rcases in_ca a2 2 30 (by omega) (by omega) with ⟨q3, q4⟩ | ⟨k, hk2, hk, rfl, q3⟩
  · refine ⟨-1, σ0, ?_, ?_, h0.rel⟩
    · by_cases hz : a2 < (2 : Int32)
      · rw [if_pos hz]
      · rw [if_neg hz, if_neg (show ¬ a2 ≤ (30 : Int32) from lt_le (q4.resolve_left hz))]
    · rw [bi_nd (show f_X12_in a2.toInt64 (2 : Int64) (30 : Int64) = some 0 from q3)]; rfl
  rw [if_neg (show ¬ nI k < (2 : Int32) from nI_nlt (b := 2) hk2 (by omega)), if_pos (show nI k ≤ (30 : Int32) from nI_le (b := 30) hk (by omega)), bi_nd (show f_X12_in (nI k).toInt64 (2 : Int64) (30 : Int64) = some 1 from q3), c1_0]
  -- the reference's row
  obtain ⟨s, e1, hs, hA⟩ : ∃ s, iter (fun z : Int32 × St => f_X12_firm_s42 z.2 (nI n) (nI k) z.1) FU ((1 : Int32), sA σ0 335 0 (1 : Int32)) = some s ∧ SR σ0 s ∧ ∀ i, i ≤ n → cA s 335 i = nI (wt_ k i i) := by
    refine it_inv (fun j z => z.1 = nI (j + 1) ∧ SR σ0 z.2 ∧ ∀ i, i < j + 1 → cA z.2 335 i = nI (wt_ k i i)) _ n (by omega) ⟨rfl, sr_ar (by omega), fun i hi => by rw [show i = 0 by omega]; exact rAs⟩ (fun j z hj hI => ?_) (fun z hI => ?_)
    · obtain ⟨z1, s⟩ := z
      obtain ⟨rfl, hs, hA⟩ := hI
      dsimp only at hs hA
      -- the search from above
      have hT : (if nI (j + 1) < nI k then nI (j + 1) else nI k) = nI (min k (j + 1)) := by
        rw [nI_mi (by omega) (by omega), Nat.min_comm]
      obtain ⟨s2, e2, hs2, hA2, hv2⟩ : ∃ s2, iter (fun z : Int32 × St => f_X12_firm_s61 z.2 (nI n) (nI k) (nI (j + 1)) z.1) FU (nI (min k (j + 1)), sA s 335 (j + 1) (nI 0)) = some s2 ∧ SR σ0 s2 ∧ (∀ i, i < j + 1 → cA s2 335 i = nI (wt_ k i i)) ∧ cA s2 335 (j + 1) = nI (ls_ (fun i => wt_ k i i) (j + 1) (min k (j + 1)) 1) := by
        refine it_inv (fun d z => z.1 = nI (min k (j + 1) - d) ∧ SR σ0 z.2 ∧ (∀ i, i < j + 1 → cA z.2 335 i = nI (wt_ k i i)) ∧ cA z.2 335 (j + 1) = nI (ls_ (fun i => wt_ k i i) (j + 1) d (min k (j + 1) - d + 1))) _ (min k (j + 1)) (by omega) ⟨rfl, hs.tr (sr_ar (by omega)), fun i hi => by rw [rAj (by omega)]; exact hA i hi, rAs⟩ (fun d z hd hJ => ?_) (fun z hJ => ?_)
        · obtain ⟨z1, s3⟩ := z
          obtain ⟨rfl, hs3, hA3, hv3⟩ := hJ
          dsimp only at hs3 hA3 hv3
          have ht := (ct_1 (t := min k (j + 1) - d) (by omega)).1
          have hw := hA3 (j + 1 - (min k (j + 1) - d)) (by omega)
          have hb := wt_b (k := k) (j + 1 - (min k (j + 1) - d))
          have hl := ls_s (fun i => wt_ k i i) (j + 1) d (min k (j + 1) - d)
          show ∃ s', f_X12_firm_s61 s3 (nI n) (nI k) (nI (j + 1)) (nI (min k (j + 1) - d)) = some (.inl s') ∧ _
          unfold f_X12_firm_s61 f_X12_firm_j96_61 f_X12_firm_j102_61
          simp (disch := omega) only [li_0, li_1, c_leF, ht, ob_s, pk_sub, gd_n, nI_clamp, hw, hv3, ad_m1]
          have fin : ∀ v, v = nI (ls_ (fun i => wt_ k i i) (j + 1) (d + 1) (min k (j + 1) - d)) → ∃ s', some (Sum.inl (nI (min k (j + 1) - d - 1), sA s3 335 (j + 1) v)) = some (Sum.inl s' : (Int32 × St) ⊕ St) ∧ s'.1 = nI (min k (j + 1) - (d + 1)) ∧ SR σ0 s'.2 ∧ (∀ i, i < j + 1 → cA s'.2 335 i = nI (wt_ k i i)) ∧ cA s'.2 335 (j + 1) = nI (ls_ (fun i => wt_ k i i) (j + 1) (d + 1) (min k (j + 1) - (d + 1) + 1)) := by
            intro v hv
            refine ⟨_, rfl, by rw [Nat.sub_sub], hs3.tr (sr_ar (by omega)), fun i hi => ?_, ?_⟩
            · dsimp only; rw [rAj (by omega)]; exact hA3 i hi
            · dsimp only; rw [rAs, hv, show min k (j + 1) - (d + 1) + 1 = min k (j + 1) - d by omega]
          by_cases hc : ct_ (min k (j + 1) - d) = true
          · rw [hc, c_eqF (by decide) (by decide) (by decide)]
            by_cases hw0 : wt_ k (j + 1 - (min k (j + 1) - d)) (j + 1 - (min k (j + 1) - d)) = 0
            · rw [if_pos (by rw [hw0])]
              exact fin _ (by rw [hl, if_pos ⟨hc, hw0⟩])
            · rw [c_eqF hw0 (by omega) (by decide)]
              exact fin _ (by rw [hl, if_neg (fun q => hw0 q.2)])
          · rw [Bool.eq_false_iff.mpr hc, if_pos (show nI (false).toNat = nI 0 from rfl)]
            exact fin _ (by rw [hl, if_neg (fun q => hc q.1)])
        · obtain ⟨z1, s3⟩ := z
          obtain ⟨rfl, hs3, hA3, hv3⟩ := hJ
          dsimp only at hs3 hA3 hv3
          refine ⟨s3, ?_, hs3, hA3, by rw [hv3, Nat.sub_self]⟩
          show f_X12_firm_s61 s3 (nI n) (nI k) (nI (j + 1)) (nI (min k (j + 1) - min k (j + 1))) = _
          unfold f_X12_firm_s61
          rw [Nat.sub_self, if_pos (by decide)]
      show ∃ s', f_X12_firm_s42 s (nI n) (nI k) (nI (j + 1)) = some (.inl s') ∧ _
      unfold f_X12_firm_s42
      simp (disch := omega) only [li_0, li_1, c_ltF, gd_n, nI_clamp, nI_add]
      rw [hT, bi_nd e2]
      refine ⟨_, rfl, rfl, hs2, fun i hi => ?_⟩
      dsimp only
      by_cases e : i = j + 1
      · rw [e, hv2]
        congr 1
        rw [wt_s, if_neg (by omega)]
        exact ls_ex _ _ (fun s h3 h4 => (wt_st k j (j + 1 - s) (by omega)).symm)
      · exact hA2 i (by omega)
    · obtain ⟨z1, s⟩ := z
      obtain ⟨rfl, hs, hA⟩ := hI
      refine ⟨s, ?_, hs, fun i hi => hA i (by omega)⟩
      show f_X12_firm_s42 s (nI n) (nI k) (nI (n + 1)) = _
      unfold f_X12_firm_s42
      simp (disch := omega) only [c_ltT]
  have hR : Rl_ B T m C χ s := h0.sc (SC_.rf _) hs
  simp (disch := omega) only [li_0, gd_n, nI_clamp]
  by_cases hn0 : n = 0
  · subst hn0
    have e2 : f_X3_firstTake (nI 0) (nI k) = some (nI 0) := by
      have e3 : iter (fun z : Int64 × Int32 => f_X3_firstTake_s5 (nI 0) (nI k) z.1 z.2) FU ((1 : Int64), (1 : Int32)) = some (1 : Int64) := by
        refine it_for (fun _ => ((1 : Int64), (1 : Int32))) 0 (by omega) rfl (fun j hj => absurd hj (Nat.not_lt_zero _)) rfl
      have e4 : iter (fun z : Int32 => f_X3_winningTake_s3 (1 : Int64) (nI 0) (nI k) z) FU (1 : Int32) = some (.inr ()) := by
        refine it_for (fun _ => (1 : Int32)) 0 (by omega) rfl (fun j hj => absurd hj (Nat.not_lt_zero _)) ?_
        show f_X3_winningTake_s3 (1 : Int64) (nI 0) (nI k) (nI 1) = _
        unfold f_X3_winningTake_s3
        simp (disch := omega) only [c_ltF, c_ltT]
      unfold f_X3_firstTake
      rw [bi_nd e3]
      unfold f_X3_winningTake
      rw [bi_nd e4]
      rfl
    refine ⟨nI 0, s, by rw [bi_nd e2], ?_, hR.rel⟩
    rw [bi_nd e1, c_eqT rfl]
  · refine ⟨nI (wt_ k n n), s, by rw [bi_nd (x3_ft hk hk2 hn (by omega))], ?_, hR.rel⟩
    rw [bi_nd e1, c_eqF (by omega) (by omega) (by omega), hA n (Nat.le_refl _)]
/-- whether a wording is at rest against another one -/
def rs_ (v x y : Nat) : Bool := f_X12_isRest (nI x) (nI y) (nI v) == some 1
def rs_c (v : Nat) : Bool := al_ (fun x => al_ (fun y => (f_X12_isRest (nI x) (nI y) (nI v) == some (nI (rs_ v x y).toNat)) && (f_X3_isAtRest (nI v) (nI x) (nI y) == some (nI (rs_ v x y && rs_ v y x).toNat))) 10) 10
theorem rs_c0 : rs_c 0 = true := by decide +kernel
theorem rs_c1 : rs_c 1 = true := by decide +kernel
theorem rs_c2 : rs_c 2 = true := by decide +kernel
theorem rs_c3 : rs_c 3 = true := by decide +kernel
theorem rs_c4 : rs_c 4 = true := by decide +kernel
theorem rs_c5 : rs_c 5 = true := by decide +kernel
theorem rs_c6 : rs_c 6 = true := by decide +kernel
theorem rs_c7 : rs_c 7 = true := by decide +kernel
theorem rs_c8 : rs_c 8 = true := by decide +kernel
theorem rs_c9 : rs_c 9 = true := by decide +kernel
theorem rs_c10 : rs_c 10 = true := by decide +kernel
theorem rs_c11 : rs_c 11 = true := by decide +kernel
theorem rs_c12 : rs_c 12 = true := by decide +kernel
theorem rs_c13 : rs_c 13 = true := by decide +kernel
theorem rs_c14 : rs_c 14 = true := by decide +kernel
theorem rs_c15 : rs_c 15 = true := by decide +kernel
theorem rs_c16 : rs_c 16 = true := by decide +kernel
theorem rs_c17 : rs_c 17 = true := by decide +kernel
theorem rs_c18 : rs_c 18 = true := by decide +kernel
theorem rs_c19 : rs_c 19 = true := by decide +kernel
theorem rs_c20 : rs_c 20 = true := by decide +kernel
theorem rs_ca {v : Nat} (h : v < 21) : rs_c v = true := by
  have hc : v = 0 ∨ v = 1 ∨ v = 2 ∨ v = 3 ∨ v = 4 ∨ v = 5 ∨ v = 6 ∨ v = 7 ∨ v = 8 ∨ v = 9 ∨ v = 10 ∨ v = 11 ∨ v = 12 ∨ v = 13 ∨ v = 14 ∨ v = 15 ∨ v = 16 ∨ v = 17 ∨ v = 18 ∨ v = 19 ∨ v = 20 := by omega
  rcases hc with rfl | rfl | rfl | rfl | rfl | rfl | rfl | rfl | rfl | rfl | rfl | rfl | rfl | rfl | rfl | rfl | rfl | rfl | rfl | rfl | rfl
  · exact rs_c0
  · exact rs_c1
  · exact rs_c2
  · exact rs_c3
  · exact rs_c4
  · exact rs_c5
  · exact rs_c6
  · exact rs_c7
  · exact rs_c8
  · exact rs_c9
  · exact rs_c10
  · exact rs_c11
  · exact rs_c12
  · exact rs_c13
  · exact rs_c14
  · exact rs_c15
  · exact rs_c16
  · exact rs_c17
  · exact rs_c18
  · exact rs_c19
  · exact rs_c20
theorem rs_1 {v x y : Nat} (hv : v < 21) (hx : x < 10) (hy : y < 10) : f_X12_isRest (nI x) (nI y) (nI v) = some (nI (rs_ v x y).toNat) ∧ f_X3_isAtRest (nI v) (nI x) (nI y) = some (nI (rs_ v x y && rs_ v y x).toNat) := by
  have h1 := al_s (al_s (rs_ca hv) x hx) y hy
  rw [Bool.and_eq_true] at h1
  exact ⟨eq_of_beq h1.1, eq_of_beq h1.2⟩
theorem y_46 (χ σ : St) (a1 : Int32) (h : Rel_ χ σ) : ∃ (v : Int32) (χ1 : St) (σ1 : St), f_X11_wordings χ a1 = some (v, χ1) ∧ f_X12_wordings σ a1 = some (v, σ1) ∧ Rel_ χ1 σ1 := by
  obtain ⟨B, T, m, C, h⟩ := h
  have h0 := h.th
  unfold f_X11_wordings f_X12_wordings
  generalize sF σ 300 0 (0 : Int32) = σ0 at h0 ⊢
  rcases in_ca a1 0 20 (by omega) (by omega) with ⟨q1, q2⟩ | ⟨v, -, hv, rfl, q1⟩
  · refine ⟨-1, χ, σ0, ?_, ?_, h0.rel⟩
    · by_cases hz : a1 < 0
      · rw [if_pos hz]
      · rw [if_neg hz, if_neg (show ¬ a1 ≤ (20 : Int32) from lt_le (q2.resolve_left hz))]
    · rw [bi_nd (show f_X12_in a1.toInt64 (0 : Int64) (20 : Int64) = some 0 from q1)]; rfl
  rw [if_neg (show ¬ nI v < 0 from nI_pos (by omega)), if_pos (show nI v ≤ (20 : Int32) from nI_le (b := 20) hv (by omega)), bi_nd (show f_X12_in (nI v).toInt64 (0 : Int64) (20 : Int64) = some 1 from q1), c1_0, x9_s0, ob_s]
  obtain ⟨x, y, e1, e2, c, χ', σ', rfl, rfl, h1⟩ := it_twn (st1 := fun z : Int32 × Int32 × St => f_X11_wordings_s23 z.2.2 (nI v) z.1 z.2.1) (st2 := fun z : Int32 × Int32 × St => f_X12_wordings_s28 z.2.2 (nI v) z.1 z.2.1) (s := ((0 : Int32), (0 : Int32), sF χ 3 1 0)) (t := ((0 : Int32), (0 : Int32), sF σ0 300 1 0))
    (fun k s u => ∃ c χ' σ', c ≤ 10 * k ∧ s = (nI c, nI k, χ') ∧ u = (nI c, nI k, σ') ∧ Rl_ B T (if c = 0 then 0 else 2) C χ' σ') (fun x y => ∃ c χ' σ', x = (nI c, χ') ∧ y = (nI c, σ') ∧ Rl_ B T (if c = 0 then 0 else 2) C χ' σ') 10 (by omega) ⟨0, _, _, by omega, rfl, rfl, rl_st h0⟩
    (fun k s u hk hI => by
      obtain ⟨c, χ', σ', hc, rfl, rfl, h1⟩ := hI
      obtain ⟨x, y, e1, e2, c2, χ2, σ2, hc2, rfl, rfl, h2⟩ := it_twn (st1 := fun z : Int32 × Int32 × St => f_X11_wordings_s32 z.2.2 (nI v) (nI k) z.1 z.2.1) (st2 := fun z : Int32 × Int32 × St => f_X12_wordings_s37 z.2.2 (nI v) (nI k) z.1 z.2.1) (s := (nI c, (0 : Int32), χ')) (t := (nI c, (0 : Int32), σ'))
        (fun j s u => ∃ c2 χ' σ', c2 ≤ c + j ∧ s = (nI c2, nI j, χ') ∧ u = (nI c2, nI j, σ') ∧ Rl_ B T (if c2 = 0 then 0 else 2) C χ' σ') (fun x y => ∃ c2 χ' σ', c2 ≤ c + 10 ∧ x = (nI c2, χ') ∧ y = (nI c2, σ') ∧ Rl_ B T (if c2 = 0 then 0 else 2) C χ' σ') 10 (by omega) ⟨c, _, _, by omega, rfl, rfl, h1⟩
        (fun j s u hj hJ => by
          obtain ⟨c2, χ', σ', hc2, rfl, rfl, h1⟩ := hJ
          have r1 := rs_1 (v := v) (x := k) (y := j) (by omega) hk hj
          have r2 := (rs_1 (v := v) (x := j) (y := k) (by omega) hj hk).1
          show ∃ s' t', f_X11_wordings_s32 χ' (nI v) (nI k) (nI c2) (nI j) = some (.inl s') ∧ f_X12_wordings_s37 σ' (nI v) (nI k) (nI c2) (nI j) = some (.inl t') ∧ _
          unfold f_X11_wordings_s32 f_X11_wordings_j76_32 f_X12_wordings_s37 f_X12_wordings_j81_37 f_X12_wordings_j84_37
          simp (disch := omega) only [li_0, li_1, li_9, li_10, c_leF, c_ltF, r1.1, r1.2, r2, ob_s, nI_add]
          cases rs_ v k j with
          | false =>
            simp (disch := omega) only [Bool.false_and, Bool.toNat_false, c_eqT, if_true]
            exact ⟨_, _, rfl, rfl, c2, χ', σ', by omega, rfl, rfl, h1⟩
          | true =>
            cases rs_ v j k with
            | false =>
              simp (disch := omega) only [Bool.and_false, Bool.toNat_false, Bool.toNat_true, c_eqT, c_eqF, if_true]
              exact ⟨_, _, rfl, rfl, c2, χ', σ', by omega, rfl, rfl, h1⟩
            | true =>
              by_cases hz : c2 = 0
              · subst hz
                obtain ⟨χ3, σ3, e3, e4, h3⟩ := rl_ad h1 (by decide) (nI k).toInt64
                obtain ⟨χ4, σ4, e5, e6, h4⟩ := rl_ad h3 (by decide) (nI j).toInt64
                simp (disch := omega) only [Bool.and_true, Bool.toNat_true, c_eqT, c_eqF, if_true, Nat.zero_add, e3, e4, e5, e6, ob_s]
                exact ⟨_, _, rfl, rfl, 1, χ4, σ4, by omega, rfl, rfl, h4⟩
              · simp (disch := omega) only [Bool.and_true, Bool.toNat_true, c_eqF]
                rw [if_neg hz] at h1
                exact ⟨_, _, rfl, rfl, c2 + 1, χ', σ', by omega, rfl, rfl, by rw [if_neg (by omega)]; exact h1⟩)
        (fun s u hJ => by
          obtain ⟨c2, χ', σ', hc2, rfl, rfl, h1⟩ := hJ
          exact ⟨_, _, rfl, rfl, c2, χ', σ', hc2, rfl, rfl, h1⟩)
      show ∃ s' t', f_X11_wordings_s23 χ' (nI v) (nI c) (nI k) = some (.inl s') ∧ f_X12_wordings_s28 σ' (nI v) (nI c) (nI k) = some (.inl t') ∧ _
      unfold f_X11_wordings_s23 f_X12_wordings_s28
      rw [if_neg (show ¬ (10 : Int32) ≤ nI k from nI_ge (b := 10) hk (by omega)), if_neg (show ¬ (9 : Int32) < nI k from nI_nlt (a := 9) (by omega) (by omega)), bi_nd e1, bi_nd e2]
      exact ⟨_, _, rfl, rfl, c2, χ2, σ2, by omega, by rw [nI_1], by rw [nI_1], h2⟩)
    (fun s u hI => by
      obtain ⟨c, χ', σ', hc, rfl, rfl, h1⟩ := hI
      exact ⟨_, _, rfl, rfl, c, χ', σ', rfl, rfl, h1⟩)
  rw [bi_nd e1, bi_nd e2]
  exact ⟨_, _, _, rfl, rfl, h1.rel⟩
