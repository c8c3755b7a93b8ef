/-! LAYER 2: what is read of a bed, on both sides. -/
def oP_ (B : Bd_) (t k : Nat) : Bool := decide (B.2.1 3 k ≤ t)
def yP_ (B : Bd_) (t k : Nat) : Bool := (B.2.1 2 k).testBit t
def kP_ (B : Bd_) (q k : Nat) : Bool := decide (B.2.1 0 k = q)
theorem tn_B {x y : Int32} (c : Bool) : (if c = true then x else y) = bif c then x else y := by cases c <;> rfl
section BEDS
variable {b r : Nat} {B : Bd_} {χ σ : St}
theorem BC_.n (h : BC_ b B χ) : cF χ b 5 = nI B.1 := h.1
theorem BC_.k0 (h : BC_ b B χ) {k : Nat} (hk : k < B.1) : cA χ (b + 1) k = nI (B.2.1 0 k) := (h.2.2.2 k hk).1
theorem BC_.k1 (h : BC_ b B χ) {k : Nat} (hk : k < B.1) : cA χ (b + 2) k = nI (B.2.1 1 k) := (h.2.2.2 k hk).2.1
theorem BC_.k2 (h : BC_ b B χ) {k : Nat} (hk : k < B.1) : cA χ (b + 3) k = nI (B.2.1 2 k) := (h.2.2.2 k hk).2.2.1
theorem BC_.k3 (h : BC_ b B χ) {k : Nat} (hk : k < B.1) : cA χ (b + 4) k = nI (B.2.1 3 k) := (h.2.2.2 k hk).2.2.2.1
theorem BC_.k4 (h : BC_ b B χ) {k : Nat} (hk : k < B.1) : cA χ (b + 5) k = nI (B.2.1 4 k) := (h.2.2.2 k hk).2.2.2.2
theorem BR.n (h : BR r 0 B σ) : cF σ 300 3 = nI B.1 := h.1
theorem BR.t (h : BR r 0 B σ) : cA σ r 32 = B.2.2.1 := by have := h.2.1; rwa [Nat.zero_add] at this
theorem BR.a (h : BR r 0 B σ) : cA σ r 33 = B.2.2.2 := by have := h.2.2.1; rwa [Nat.zero_add] at this
theorem BR.k0 (h : BR r 0 B σ) {k : Nat} (hk : k < B.1) : cA σ 305 k = nI (B.2.1 0 k) := (h.2.2.2.1 k hk).1
theorem BR.k1 (h : BR r 0 B σ) {k : Nat} (hk : k < B.1) : cA σ r k = nI (B.2.1 1 k) := by have := (h.2.2.2.1 k hk).2.1; rwa [Nat.zero_add] at this
theorem BR.k2 (h : BR r 0 B σ) {k : Nat} (hk : k < B.1) : cA σ r (8 + k) = nI (B.2.1 2 k) := by have := (h.2.2.2.1 k hk).2.2.1; rwa [Nat.zero_add] at this
theorem BR.k3 (h : BR r 0 B σ) {k : Nat} (hk : k < B.1) : cA σ r (16 + k) = nI (B.2.1 3 k) := by have := (h.2.2.2.1 k hk).2.2.2.1; rwa [Nat.zero_add] at this
theorem BR.k4 (h : BR r 0 B σ) {k : Nat} (hk : k < B.1) : cA σ r (24 + k) = nI (B.2.1 4 k) := by have := (h.2.2.2.1 k hk).2.2.2.2; rwa [Nat.zero_add] at this
theorem WB.b0 (h : WB B) {k : Nat} (hk : k < B.1) : B.2.1 0 k ≤ 2 := (h.2 k hk).1
theorem WB.b1 (h : WB B) {k : Nat} (hk : k < B.1) : B.2.1 1 k ≤ 9 := (h.2 k hk).2.1
theorem WB.b2 (h : WB B) {k : Nat} (hk : k < B.1) : B.2.1 2 k ≤ 15 := (h.2 k hk).2.2.1
theorem WB.b3 (h : WB B) {k : Nat} (hk : k < B.1) : B.2.1 3 k ≤ 9 := (h.2 k hk).2.2.2.1
theorem WB.b4 (h : WB B) {k : Nat} (hk : k < B.1) : B.2.1 4 k ≤ 99 := (h.2 k hk).2.2.2.2
theorem x0_in (W : WB B) (h : BC_ b B χ) {t : Nat} (ht : t < 2 ^ 31) : f_X0_openIn χ b (nI t) = some (nI (bi (oP_ B t) B.1)) := by
  have h8 := W.1
  unfold f_X0_openIn
  refine bi_nd (it_for (fun k => (nI (bi (oP_ B t) k), nI k)) B.1 (by omega) rfl (fun k hk => ?_) ?_)
  · have hb := W.b3 hk
    show f_X0_openIn_s4 b χ (nI t) (nI (bi (oP_ B t) k)) (nI k) = _
    unfold f_X0_openIn_s4 f_X0_openIn_j28_4
    simp (disch := omega) only [h.n, h.k3 hk, li_1, c_leT, c_leF, c_ltT, c_ltF, c_eqT, if_true, c_eqF, gd_n, nI_clamp, nI_add, pk_sub, sh_1]
    by_cases hp : oP_ B t k = true
    · have h2 : B.2.1 3 k ≤ t := of_decide_eq_true hp
      simp (disch := omega) only [c_ltF, bi_T hp]
    · have h2 : ¬ B.2.1 3 k ≤ t := fun e => hp (decide_eq_true e)
      simp (disch := omega) only [c_ltT]
      rw [← bi_F hp]
  · show f_X0_openIn_s4 b χ (nI t) (nI (bi (oP_ B t) B.1)) (nI B.1) = _
    unfold f_X0_openIn_s4
    simp (disch := omega) only [h.n, c_leT]
theorem x0_op (W : WB B) (h : BC_ b B χ) : f_X0_openOnes χ b = some (nI (bi (oP_ B 0) B.1)) := by
  unfold f_X0_openOnes
  exact bi_nd (x0_in W h (t := 0) (by omega))
theorem x0_ye (W : WB B) (h : BC_ b B χ) {t : Nat} (ht : t < 4) : f_X0_yesOnes χ b (nI t) = some (nI (bi (yP_ B t) B.1)) := by
  have h8 := W.1
  unfold f_X0_yesOnes
  refine bi_nd (it_for (fun k => (nI (bi (yP_ B t) k), nI k)) B.1 (by omega) rfl (fun k hk => ?_) ?_)
  · have hb := W.b2 hk
    show f_X0_yesOnes_s4 b χ (nI t) (nI (bi (yP_ B t) k)) (nI k) = _
    unfold f_X0_yesOnes_s4
    simp (disch := omega) only [h.n, h.k2 hk, li_1, c_leT, c_leF, c_ltT, c_ltF, c_eqT, if_true, c_eqF, gd_n, nI_clamp, nI_add, pk_sub, ha_n]
    by_cases hp : (B.2.1 2 k).testBit t = true
    · rw [hp]
      simp (disch := omega) only [Bool.toNat_true, sh_1]
      rw [bi_T (p := yP_ B t) hp]
    · rw [Bool.eq_false_iff.mpr hp]
      simp (disch := omega) only [Bool.toNat_false]
      rw [show nI 0 <<< (nI k &&& 31) = nI 0 from (by decide +kernel : ∀ k, k < 31 → nI 0 <<< (nI k &&& 31) = nI 0) k (by omega), bi_F0 (p := yP_ B t) hp]
  · show f_X0_yesOnes_s4 b χ (nI t) (nI (bi (yP_ B t) B.1)) (nI B.1) = _
    unfold f_X0_yesOnes_s4
    simp (disch := omega) only [h.n, c_leT]
theorem x0_ki (W : WB B) (h : BC_ b B χ) {t : Nat} (ht : t < 2 ^ 31) : f_X0_onesOfKind χ b (nI t) = some (nI (bi (kP_ B t) B.1)) := by
  have h8 := W.1
  unfold f_X0_onesOfKind
  refine bi_nd (it_for (fun k => (nI (bi (kP_ B t) k), nI k)) B.1 (by omega) rfl (fun k hk => ?_) ?_)
  · have hb := W.b0 hk
    show f_X0_onesOfKind_s4 b χ (nI t) (nI (bi (kP_ B t) k)) (nI k) = _
    unfold f_X0_onesOfKind_s4 f_X0_onesOfKind_j28_4
    simp (disch := omega) only [h.n, h.k0 hk, li_1, c_leF, gd_n, nI_clamp, nI_add, sh_1]
    by_cases hp : kP_ B t k = true
    · have h2 : B.2.1 0 k = t := of_decide_eq_true hp
      simp (disch := omega) only [c_eqT, if_true, bi_T hp]
    · have h2 : ¬ B.2.1 0 k = t := fun e => hp (decide_eq_true e)
      simp (disch := omega) only [c_eqF]
      rw [← bi_F hp]
  · show f_X0_onesOfKind_s4 b χ (nI t) (nI (bi (kP_ B t) B.1)) (nI B.1) = _
    unfold f_X0_onesOfKind_s4
    simp (disch := omega) only [h.n, c_leT]
theorem x0_pe (W : WB B) (h : BC_ b B χ) : f_X0_pearls χ b = some (nI (su (B.2.1 4) B.1)) := by
  have h8 := W.1
  unfold f_X0_pearls
  refine bi_nd (it_for (fun k => (nI (su (B.2.1 4) k), nI k)) B.1 (by omega) rfl (fun k hk => ?_) ?_)
  · show f_X0_pearls_s4 b χ (nI (su (B.2.1 4) k)) (nI k) = _
    unfold f_X0_pearls_s4
    simp (disch := omega) only [h.n, h.k4 hk, li_1, c_leT, c_leF, c_ltT, c_ltF, c_eqT, if_true, c_eqF, gd_n, nI_clamp, nI_add, pk_sub, su_s]
  · show f_X0_pearls_s4 b χ (nI (su (B.2.1 4) B.1)) (nI B.1) = _
    unfold f_X0_pearls_s4
    simp (disch := omega) only [h.n, c_leT]
theorem x0_fe (W : WB B) (h : BC_ b B χ) : f_X0_fears χ b = some (nI (su (B.2.1 1) B.1)) := by
  have h8 := W.1
  unfold f_X0_fears
  refine bi_nd (it_for (fun k => (nI (su (B.2.1 1) k), nI k)) B.1 (by omega) rfl (fun k hk => ?_) ?_)
  · show f_X0_fears_s4 b χ (nI (su (B.2.1 1) k)) (nI k) = _
    unfold f_X0_fears_s4
    simp (disch := omega) only [h.n, h.k1 hk, li_1, c_leT, c_leF, c_ltT, c_ltF, c_eqT, if_true, c_eqF, gd_n, nI_clamp, nI_add, pk_sub, su_s]
  · show f_X0_fears_s4 b χ (nI (su (B.2.1 1) B.1)) (nI B.1) = _
    unfold f_X0_fears_s4
    simp (disch := omega) only [h.n, c_leT]
/-- others of its kind that are not shut -/
def lP_ (B : Bd_) (o k : Nat) : Bool := decide (k ≠ o) && (kP_ B (B.2.1 0 o) k && oP_ B 0 k)
theorem x0_li (W : WB B) (h : BC_ b B χ) {o : Nat} (ho : o < B.1) : f_X0_likesOpen χ b (nI o) = some (nI (cn (lP_ B o) B.1)) := by
  have h8 := W.1
  unfold f_X0_likesOpen
  refine bi_nd (it_for (fun k => (nI (cn (lP_ B o) k), nI k)) B.1 (by omega) rfl (fun k hk => ?_) ?_)
  · have hb := W.b0 hk
    have hb2 := W.b0 ho
    have hb3 := W.b3 hk
    show f_X0_likesOpen_s4 b χ (nI o) (nI (cn (lP_ B o) k)) (nI k) = _
    unfold f_X0_likesOpen_s4 f_X0_likesOpen_j44_4
    simp (disch := omega) only [h.n, h.k0 hk, h.k0 ho, h.k3 hk, li_0, li_1, c_leF, gd_n, nI_clamp, nI_add, c_eqN]
    have hcn := cn_s (lP_ B o) k
    unfold lP_ kP_ oP_ at hcn
    unfold lP_ kP_ oP_
    rw [hcn]
    by_cases h1 : k = o
    · simp [h1]
    · by_cases h2 : B.2.1 0 k = B.2.1 0 o
      · by_cases h3 : B.2.1 3 k = 0
        · simp [h1, h2, h3]
        · simp [h1, h2, h3]
      · simp [h1, h2]
  · show f_X0_likesOpen_s4 b χ (nI o) (nI (cn (lP_ B o) B.1)) (nI B.1) = _
    unfold f_X0_likesOpen_s4
    simp (disch := omega) only [h.n, c_leT]
theorem x0_al (W : WB B) (h : BC_ b B χ) : f_X0_all χ b = some (nI (2 ^ B.1 - 1)) := by
  have h8 := W.1
  unfold f_X0_all
  simp (disch := omega) only [h.n, li_1, sh_1]
  rw [pk_sub (Nat.one_le_two_pow)]
/-- the reference's -/
theorem x12_al (W : WB B) (h : BR r 0 B σ) : f_X12_all σ = some (nI (2 ^ B.1 - 1)) := by
  have h8 := W.1
  unfold f_X12_all
  simp (disch := omega) only [h.n, li_1, sh_1]
  rw [pk_sub (Nat.one_le_two_pow)]
theorem x12_ha {a k : Nat} (ha : a < 2 ^ 31) (hk : k < 32) : f_X12_has (nI a) (nI k) = some (nI (a.testBit k).toNat) := by
  unfold f_X12_has
  simp (disch := omega) only [li_0, li_1, ha_n]
  cases a.testBit k <;> rfl
theorem x12_op (W : WB B) (h : BR r 0 B σ) : f_X12_openOnes σ r = some (nI (bi (oP_ B 0) B.1)) := by
  have h8 := W.1
  unfold f_X12_openOnes
  refine bi_nd (it_for (fun k => (nI (bi (oP_ B 0) k), nI k)) B.1 (by omega) rfl (fun k hk => ?_) ?_)
  · have hb := W.b3 hk
    show f_X12_openOnes_s4 r σ (nI (bi (oP_ B 0) k)) (nI k) = _
    unfold f_X12_openOnes_s4 f_X12_openOnes_j29_4
    simp (disch := omega) only [h.n, li_0, li_1, li_16, c_leF, gd_n, nI_clamp, nI_add, sh_1, h.k3 hk]
    by_cases hp : oP_ B 0 k = true
    · have h2 : B.2.1 3 k ≤ 0 := of_decide_eq_true hp
      simp (disch := omega) only [c_eqT, if_true, bi_T hp]
    · have h2 : ¬ B.2.1 3 k ≤ 0 := fun e => hp (decide_eq_true e)
      simp (disch := omega) only [c_eqF, bi_F0 hp]
  · show f_X12_openOnes_s4 r σ (nI (bi (oP_ B 0) B.1)) (nI B.1) = _
    unfold f_X12_openOnes_s4
    simp (disch := omega) only [h.n, c_leT]
theorem x12_ye (W : WB B) (h : BR r 0 B σ) {t : Nat} (ht : t < 4) : f_X12_yesOf σ r (nI t) = some (nI (bi (yP_ B t) B.1)) := by
  have h8 := W.1
  unfold f_X12_yesOf
  refine bi_nd (it_for (fun k => (nI (bi (yP_ B t) k), nI k)) B.1 (by omega) rfl (fun k hk => ?_) ?_)
  · have hb := W.b2 hk
    show f_X12_yesOf_s5 r σ (nI t) (nI (bi (yP_ B t) k)) (nI k) = _
    unfold f_X12_yesOf_s5 f_X12_yesOf_j37_5
    simp (disch := omega) only [h.n, li_0, li_1, li_8, c_leF, gd_n, nI_clamp, nI_add, sh_1, h.k2 hk, x12_ha, Option.bind_some]
    by_cases hp : (B.2.1 2 k).testBit t = true
    · rw [hp]
      simp (disch := omega) only [Bool.toNat_true, c_eqF]
      rw [bi_T (p := yP_ B t) hp]
    · rw [Bool.eq_false_iff.mpr hp]
      simp (disch := omega) only [Bool.toNat_false, c_eqT, if_true]
      rw [bi_F0 (p := yP_ B t) hp]
  · show f_X12_yesOf_s5 r σ (nI t) (nI (bi (yP_ B t) B.1)) (nI B.1) = _
    unfold f_X12_yesOf_s5
    simp (disch := omega) only [h.n, c_leT]
theorem x12_ki (W : WB B) (h : BR r 0 B σ) {t : Nat} (ht : t < 2 ^ 31) : f_X12_kinOf σ (nI t) = some (nI (bi (kP_ B t) B.1)) := by
  have h8 := W.1
  unfold f_X12_kinOf
  refine bi_nd (it_for (fun k => (nI (bi (kP_ B t) k), nI k)) B.1 (by omega) rfl (fun k hk => ?_) ?_)
  · have hb := W.b0 hk
    show f_X12_kinOf_s4 σ (nI t) (nI (bi (kP_ B t) k)) (nI k) = _
    unfold f_X12_kinOf_s4 f_X12_kinOf_j30_4
    simp (disch := omega) only [h.n, h.k0 hk, li_0, li_1, c_leF, gd_n, nI_clamp, nI_add, sh_1]
    by_cases hp : kP_ B t k = true
    · have h2 : B.2.1 0 k = t := of_decide_eq_true hp
      simp (disch := omega) only [c_eqT, if_true, bi_T hp]
    · have h2 : ¬ B.2.1 0 k = t := fun e => hp (decide_eq_true e)
      simp (disch := omega) only [c_eqF, bi_F0 hp]
  · show f_X12_kinOf_s4 σ (nI t) (nI (bi (kP_ B t) B.1)) (nI B.1) = _
    unfold f_X12_kinOf_s4
    simp (disch := omega) only [h.n, c_leT]
theorem x12_su {f : Nat → Nat} {o : Nat} (W : WB B) (h : BR r 0 B σ) (ho : o ≤ 24) (hf : ∀ k, k < B.1 → cA σ r (o + k) = nI (f k)) : f_X12_sumOf σ r (nI o) = some (nI (su f B.1)) := by
  have h8 := W.1
  unfold f_X12_sumOf
  refine bi_nd (it_for (fun k => (nI (su f k), nI k)) B.1 (by omega) rfl (fun k hk => ?_) ?_)
  · show f_X12_sumOf_s5 r σ (nI o) (nI (su f k)) (nI k) = _
    unfold f_X12_sumOf_s5
    simp (disch := omega) only [h.n, li_1, c_leT, c_leF, c_ltT, c_ltF, c_eqT, if_true, c_eqF, gd_n, nI_clamp, nI_add, pk_sub, hf k hk, su_s]
  · show f_X12_sumOf_s5 r σ (nI o) (nI (su f B.1)) (nI B.1) = _
    unfold f_X12_sumOf_s5
    simp (disch := omega) only [h.n, c_leT]
theorem x12_pe (W : WB B) (h : BR r 0 B σ) : f_X12_sumOf σ r (24 : Int32) = some (nI (su (B.2.1 4) B.1)) := x12_su W h (o := 24) (by omega) (fun k hk => h.k4 hk)
theorem x12_fe (W : WB B) (h : BR r 0 B σ) : f_X12_sumOf σ r (0 : Int32) = some (nI (su (B.2.1 1) B.1)) := x12_su W h (o := 0) (by omega) (fun k hk => by rw [Nat.zero_add]; exact h.k1 hk)
/-- which oyster -/
theorem os_ca (W : WB B) (h : BC_ b B χ) (k : BR r 0 B σ) (a : Int32) : (f_X0_has χ b a = some 0 ∧ f_X12_isOyster σ a = some 0) ∨ ∃ j, j < B.1 ∧ a = nI j ∧ f_X0_has χ b a = some 1 ∧ f_X12_isOyster σ a = some 1 := by
  have h8 := W.1
  unfold f_X0_has f_X12_isOyster f_X12_in
  rw [h.n, k.n]
  have hA : lg_cmp a.toInt64 (0 : Int64) < 0 ↔ a < 0 := (lg_cmp_lt _ _).trans (l_toI a (n := 0) (by omega)).1
  by_cases h1 : a < 0
  · refine Or.inl ⟨by rw [if_pos h1], ?_⟩
    rw [if_pos (hA.mpr h1)]
    exact gd_t nb_0
  · obtain ⟨j, hj, e⟩ := nI_of h1
    rw [if_neg h1, if_neg (fun q => h1 (hA.mp q))]
    have h2 : (0 < lg_cmp a.toInt64 ((nI B.1 - 1).toInt64)) ↔ B.1 ≤ j := by
      rw [lg_cmp_gt, Int64.lt_iff_toInt_lt, Int32.toInt_toInt64, Int32.toInt_toInt64, e, nI_toInt hj, show (1 : Int32) = nI 1 from rfl, pk_sub_toInt (by omega) (by omega)]
      omega
    by_cases h3 : B.1 ≤ j
    · refine Or.inl ⟨?_, ?_⟩
      · rw [e, if_pos (nI_le h3 hj)]
      · rw [if_pos (h2.mpr h3)]
        exact gd_t nb_0
    · refine Or.inr ⟨j, by omega, e, ?_, ?_⟩
      · rw [e, if_neg (nI_ge (by omega) (by omega))]
      · rw [if_neg (fun q => h3 (h2.mp q))]
        exact gd_t nb_1
end BEDS
