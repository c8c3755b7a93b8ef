/-! LAYER 2: jury; fractions; power, pivots. -/
theorem y_29 (χ σ : St) (h : Rel_ χ σ) : ∃ (v : Int32) (χ1 : St) (σ1 : St), f_X11_jury χ = some (v, χ1) ∧ f_X12_jury σ = some (v, σ1) ∧ Rel_ χ1 σ1 := by
  obtain ⟨B, T, m, C, h⟩ := h
  have h0 := h.th
  have h8 := h.W.1
  have ha := pn_lt h8
  have hv := bi_lt (mP B (2 ^ B.1 - 1)) 4
  unfold f_X11_jury f_X12_jury
  generalize sF σ 300 0 (0 : Int32) = σ0 at h0 ⊢
  -- whether a set answers as all do
  have ans : ∀ s, s < 256 → f_X12_answersAs σ0 (nI s) = some (nI (decide (bi (mP B s) 4 = bi (mP B (2 ^ B.1 - 1)) 4)).toNat) := by
    intro s hs
    have e1 : iter (fun z : Int32 × Int32 => f_X12_answersAs_s4 σ0 (nI s) z.1 z.2) FU ((1 : Int32), (0 : Int32)) = some (nI (al_ (fun t => mP B s t == mP B (2 ^ B.1 - 1) t) 4).toNat) := by
      refine it_for (fun k => (nI (al_ (fun t => mP B s t == mP B (2 ^ B.1 - 1) t) k).toNat, nI k)) 4 (by omega) rfl (fun k hk => ?_) rfl
      show f_X12_answersAs_s4 σ0 (nI s) (nI (al_ (fun t => mP B s t == mP B (2 ^ B.1 - 1) t) k).toNat) (nI k) = _
      unfold f_X12_answersAs_s4 f_X12_answersAs_j27_4 f_X12_answersAs_j44_4 f_X12_answersAs_j52_4
      rw [al_st]
      cases al_ (fun t => mP B s t == mP B (2 ^ B.1 - 1) t) k with
      | false =>
        rw [Bool.and_false]
        simp (disch := omega) only [li_0, li_1, li_4, c_leF, Bool.toNat_false, c_eqT, if_true, nI_add]
      | true =>
        rw [Bool.and_true]
        simp (disch := omega) only [li_0, li_1, li_4, c_leF, Bool.toNat_true, c_eqF, h0.mr, h0.al.2, ob_s, mr_le, nI_add]
        cases mP B s k <;> cases mP B (2 ^ B.1 - 1) k <;> rfl
    have hb : decide (bi (mP B s) 4 = bi (mP B (2 ^ B.1 - 1)) 4) = al_ (fun t => mP B s t == mP B (2 ^ B.1 - 1) t) 4 := by
      cases hq : al_ (fun t => mP B s t == mP B (2 ^ B.1 - 1) t) 4 with
      | true => exact decide_eq_true (bi_ex (fun i hi => eq_of_beq (al_s hq i hi)))
      | false =>
        refine decide_eq_false (fun q => ?_)
        have : al_ (fun t => mP B s t == mP B (2 ^ B.1 - 1) t) 4 = true := al_i (fun k hk => by
          have h1 := bi_tb (mP B s) 4 k
          have h2 := bi_tb (mP B (2 ^ B.1 - 1)) 4 k
          rw [q, h2, decide_eq_true hk] at h1
          exact beq_iff_eq.mpr h1.symm)
        rw [this] at hq
        exact Bool.noConfusion hq
    unfold f_X12_answersAs
    rw [bi_nd e1, hb]
    cases al_ (fun t => mP B s t == mP B (2 ^ B.1 - 1) t) 4
    · exact gd_t nb_0
    · exact gd_t nb_1
  rw [bi_nd h.al.1, bi_nd (h.mo ha)]
  obtain ⟨x, y, e1, e2, b, b', hb, rfl, rfl, hr⟩ := it_twn (st1 := fun z : Int32 × Int32 => f_X11_jury_s19 χ (nI (bi (mP B (2 ^ B.1 - 1)) 4)) z.1 z.2) (st2 := fun z : Int32 × Int32 => f_X12_jury_s9 σ0 z.1 z.2) (s := ((0 : Int32), (1 : Int32))) (t := ((-1 : Int32), (1 : Int32)))
    (fun k s u => ∃ f b, f < 256 ∧ s = (nI f, nI (k + 1)) ∧ u = (b, nI (k + 1)) ∧ ((b = -1 ∧ f = 0) ∨ (b = nI f ∧ f ≠ 0))) (fun x y => ∃ f b, f < 256 ∧ x = nI f ∧ y = b ∧ ((b = -1 ∧ f = 0) ∨ (b = nI f ∧ f ≠ 0))) (2 ^ B.1 - 1) (by omega) ⟨0, -1, by omega, rfl, rfl, Or.inl ⟨rfl, rfl⟩⟩
    (fun k s u hk hI => by
      obtain ⟨f, b, hf, rfl, rfl, hr⟩ := hI
      have b1 := pop_le (k + 1)
      have b2 := pop_le f
      have hm := bi_lt (mP B (k + 1)) 4
      have d1 := h0.mo (s := k + 1) (by omega)
      have d2 := ans (k + 1) (by omega)
      show ∃ s' t', f_X11_jury_s19 χ (nI (bi (mP B (2 ^ B.1 - 1)) 4)) (nI f) (nI (k + 1)) = some (.inl s') ∧ f_X12_jury_s9 σ0 b (nI (k + 1)) = some (.inl t') ∧ _
      unfold f_X11_jury_s19 f_X11_jury_j49_19 f_X11_jury_j54_19 f_X11_jury_j83_19 f_X12_jury_s9 f_X12_jury_j48_9 f_X12_jury_j58_9
      generalize bi (mP B (2 ^ B.1 - 1)) 4 = w1 at hv d2 ⊢
      generalize bi (mP B (k + 1)) 4 = w2 at hm d1 d2 ⊢
      simp (disch := omega) only [h0.al.1, h0.al.2, ob_s, c_ltF, bc_16, li_0, li_1, li_2, nI_add, pk_div, pk_rn, d1, d2]
      by_cases hodd : pop_ (k + 1) % 2 = 1
      · rcases hr with ⟨rfl, rfl⟩ | ⟨rfl, hf0⟩
        · by_cases hw : w2 = w1
          · simp (disch := omega) only [c_eqT, c_eqF, if_true, show (-nI 1 : Int32) = -1 from rfl, x12_i0, ob_s, decide_eq_true hw, Bool.toNat_true]
            exact ⟨_, _, rfl, rfl, _, _, by omega, rfl, rfl, Or.inr ⟨rfl, by omega⟩⟩
          · simp (disch := omega) only [c_eqT, c_eqF, if_true, show (-nI 1 : Int32) = -1 from rfl, x12_i0, ob_s, decide_eq_false hw, Bool.toNat_false]
            exact ⟨_, _, rfl, rfl, _, _, by omega, rfl, rfl, Or.inl ⟨rfl, rfl⟩⟩
        · by_cases hle : pop_ f ≤ pop_ (k + 1)
          · simp (disch := omega) only [c_eqT, c_eqF, if_true, c_leT, x12_if, ob_s, decide_eq_false (show ¬ pop_ (k + 1) < pop_ f by omega), Bool.toNat_false]
            exact ⟨_, _, rfl, rfl, _, _, hf, rfl, rfl, Or.inr ⟨rfl, hf0⟩⟩
          · by_cases hw : w2 = w1
            · simp (disch := omega) only [c_eqT, c_eqF, if_true, c_leF, x12_if, ob_s, decide_eq_true (show pop_ (k + 1) < pop_ f by omega), decide_eq_true hw, Bool.toNat_true]
              exact ⟨_, _, rfl, rfl, _, _, by omega, rfl, rfl, Or.inr ⟨rfl, by omega⟩⟩
            · simp (disch := omega) only [c_eqT, c_eqF, if_true, c_leF, x12_if, ob_s, decide_eq_true (show pop_ (k + 1) < pop_ f by omega), decide_eq_false hw, Bool.toNat_true, Bool.toNat_false]
              exact ⟨_, _, rfl, rfl, _, _, hf, rfl, rfl, Or.inr ⟨rfl, hf0⟩⟩
      · rcases hr with ⟨rfl, rfl⟩ | ⟨rfl, hf0⟩
        · simp (disch := omega) only [c_eqT, c_eqF, if_true]
          exact ⟨_, _, rfl, rfl, _, _, by omega, rfl, rfl, Or.inl ⟨rfl, rfl⟩⟩
        · by_cases hle : pop_ f ≤ pop_ (k + 1)
          · simp (disch := omega) only [c_eqT, c_eqF, if_true, c_leT]
            exact ⟨_, _, rfl, rfl, _, _, hf, rfl, rfl, Or.inr ⟨rfl, hf0⟩⟩
          · simp (disch := omega) only [c_eqT, c_eqF, if_true, c_leF]
            exact ⟨_, _, rfl, rfl, _, _, hf, rfl, rfl, Or.inr ⟨rfl, hf0⟩⟩)
    (fun s u hI => by
      obtain ⟨f, b, hf, rfl, rfl, hr⟩ := hI
      refine ⟨nI f, b, ?_, ?_, f, b, hf, rfl, rfl, hr⟩
      · show f_X11_jury_s19 χ (nI (bi (mP B (2 ^ B.1 - 1)) 4)) (nI f) (nI (2 ^ B.1 - 1 + 1)) = _
        unfold f_X11_jury_s19
        simp (disch := omega) only [h0.al.1, ob_s, c_ltT]
      · show f_X12_jury_s9 σ0 b (nI (2 ^ B.1 - 1 + 1)) = _
        unfold f_X12_jury_s9
        simp (disch := omega) only [h0.al.2, ob_s, c_ltT])
  rw [bi_nd e1, bi_nd e2]
  rcases hr with ⟨rfl, rfl⟩ | ⟨rfl, hf0⟩
  · refine ⟨-2, χ, σ0, ?_, ?_, h0.rel⟩
    · rw [if_pos (show nI 0 = 0 from rfl)]
    · unfold f_X12_entersFewest
      rw [if_neg (by decide), ob_s]
  · obtain ⟨χ3, σ3, e3, e4, e5, h3⟩ := rl_fw h0 (b := b) (by omega)
    rw [if_neg (show ¬ nI b = 0 from fun q => hf0 ((nI_eq (b := 0) (by omega) (by omega)).mp q))]
    simp only [x9_s0, ob_s, e3, e4, e5]
    exact ⟨_, _, _, rfl, rfl, h3.rel⟩
/-- longs -/
theorem lN_ti {n : Nat} (h : n < 2 ^ 63) : (lN n).toInt = (n : Int) := by
  show (Int64.ofNat n).toInt = _
  rw [Int64.toInt_ofNat_of_lt h]
theorem lN_in {a b : Nat} (ha : a < 2 ^ 63) (hb : b < 2 ^ 63) : lN a = lN b ↔ a = b := by
  rw [← Int64.toInt_inj, lN_ti ha, lN_ti hb]
  omega
theorem lN_dv {a b : Nat} (ha : a < 2 ^ 63) (h0 : 0 < b) (hb : b < 2 ^ 63) : lN a / lN b = lN (a / b) := by
  have hd : a / b ≤ a := Nat.div_le_self a b
  apply Int64.toInt_inj.mp
  have hq : (a : Int) / (b : Int) = ((a / b : Nat) : Int) := (Int.natCast_ediv a b).symm
  rw [Int64.toInt_div, lN_ti ha, lN_ti hb, lN_ti (by omega), Int.tdiv_eq_ediv_of_nonneg (by omega), hq]
  generalize a / b = q at hd ⊢
  rw [Int.bmod_eq_of_le (by omega) (by omega)]
theorem lN_rm {a b : Nat} (ha : a < 2 ^ 63) (h0 : 0 < b) (hb : b < 2 ^ 63) : lN a - lN a / lN b * lN b = lN (a % b) := by
  rw [lN_dv ha h0 hb, lN_mul, lN_sub (Nat.div_mul_le_self a b)]
  exact congrArg lN (by have := Nat.div_add_mod' a b; omega)
theorem lg_0T {n : Nat} (h : n = 0) : lg_cmp (lN n) (0 : Int64) = 0 := (lg_cmp_eq _ _).mpr (by rw [h]; rfl)
theorem lg_0F {n : Nat} (h : n ≠ 0) (hn : n < 2 ^ 63) : ¬ lg_cmp (lN n) (0 : Int64) = 0 := fun q => h ((lN_in hn (by omega)).mp ((lg_cmp_eq _ _).mp q))
theorem lg_0P {n : Nat} (h : n ≠ 0) (hn : n < 2 ^ 63) : 0 < lg_cmp (lN n) (0 : Int64) := by
  rw [lg_cmp_gt, Int64.lt_iff_toInt_lt, lN_ti hn, show (0 : Int64).toInt = 0 from rfl]
  omega
theorem nzl_n {n : Nat} (h : n ≠ 0) (hn : n < 2 ^ 63) : nzl (lN n) = true := by
  unfold nzl
  rw [decide_eq_false (show ¬ lN n = 0 from fun q => h ((lN_in (b := 0) hn (by omega)).mp q))]
  rfl
/-- Euclid's steps: at most two for each halving -/
def eu_ : Nat → Nat → Nat → Prop
  | 0, _, b => b = 0
  | d + 1, a, b => b = 0 ∨ eu_ d b (a % b)
theorem eu_m {d : Nat} : ∀ {a b : Nat}, eu_ d a b → eu_ (d + 1) a b := by
  induction d with
  | zero => intro a b h; exact Or.inl h
  | succ d ih =>
    intro a b h
    rcases h with h | h
    · exact Or.inl h
    · exact Or.inr (ih h)
theorem eu_b : ∀ (k a b : Nat), b < 2 ^ k → eu_ (2 * k) a b := by
  intro k
  induction k with
  | zero => intro a b h; show b = 0; omega
  | succ k ih =>
    intro a b h
    by_cases hb : b = 0
    · exact Or.inl hb
    · refine Or.inr ?_
      show eu_ (2 * k + 1) b (a % b)
      by_cases hr : a % b = 0
      · exact Or.inl hr
      · refine Or.inr (ih (a % b) (b % (a % b)) ?_)
        have h1 : a % b < b := Nat.mod_lt _ (by omega)
        have h2 : b % (a % b) < a % b := Nat.mod_lt _ (by omega)
        have h3 := Nat.div_add_mod b (a % b)
        have h4 : 1 ≤ b / (a % b) := Nat.div_pos (by omega) (by omega)
        have h5 : a % b ≤ a % b * (b / (a % b)) := Nat.le_mul_of_pos_right _ h4
        rw [Nat.pow_succ] at h
        omega
theorem x12_co : ∀ (d a b : Nat), a < 2 ^ 63 → b < 2 ^ 63 → eu_ d a b → f_X12_common (d + 1) (lN a) (lN b) = some (lN (Nat.gcd a b)) := by
  intro d
  induction d with
  | zero =>
    intro a b ha hb h
    have h0 : b = 0 := h
    show f_X12_common_b (f_X12_common 0) (lN a) (lN b) = _
    unfold f_X12_common_b
    rw [if_pos (lg_0T h0), h0, Nat.gcd_zero_right]
  | succ d ih =>
    intro a b ha hb h
    show f_X12_common_b (f_X12_common (d + 1)) (lN a) (lN b) = _
    unfold f_X12_common_b
    by_cases h0 : b = 0
    · rw [if_pos (lg_0T h0), h0, Nat.gcd_zero_right]
    · have hr : a % b < b := Nat.mod_lt _ (by omega)
      rw [if_neg (lg_0F h0 hb), gd_t (nzl_n h0 hb), lN_rm ha (by omega) hb, bi_nd (ih b (a % b) hb (by omega) (h.resolve_left h0))]
      rw [Nat.gcd_comm a b, Nat.gcd_rec b a, Nat.gcd_comm]
theorem x12_cm {a b : Nat} (ha : a < 2 ^ 63) (hb : b < 2 ^ 62) : f_X12_common 200 (lN a) (lN b) = some (lN (Nat.gcd a b)) := by
  have h1 := eu_b 62 a b hb
  have h2 : ∀ n, eu_ (124 + n) a b := by
    intro n
    induction n with
    | zero => exact h1
    | succ n ih => exact eu_m ih
  exact x12_co 199 a b ha (by omega) (h2 75)
theorem x9_cm {a b : Nat} (ha : a < 2 ^ 63) (hb : b < 2 ^ 62) : f_X9_commonOf (lN a) (lN b) = some (lN (Nat.gcd a b)) := by
  unfold f_X9_commonOf
  obtain ⟨x, e, hx⟩ := it_inx (step := fun z : Int64 × Int64 × Int32 => f_X9_commonOf_s9 z.1 z.2.1 z.2.2) (s := (lN a, lN b, (0 : Int32)))
    (fun k z => ∃ a' b', a' < 2 ^ 63 ∧ b' < 2 ^ 63 ∧ z = (lN a', lN b', nI k) ∧ Nat.gcd a' b' = Nat.gcd a b ∧ eu_ (124 - k) a' b') (fun x => x = lN (Nat.gcd a b)) 124 (by omega) ⟨a, b, ha, by omega, rfl, rfl, eu_b 62 a b hb⟩ (fun k z hk hI => by
      obtain ⟨a', b', ha', hb', rfl, hg, he⟩ := hI
      show (k < 124 ∧ ∃ s', f_X9_commonOf_s9 (lN a') (lN b') (nI k) = some (.inl s') ∧ _) ∨ ∃ x, f_X9_commonOf_s9 (lN a') (lN b') (nI k) = some (.inr x) ∧ _
      unfold f_X9_commonOf_s9
      by_cases h0 : b' = 0
      · rw [if_pos (lg_0T h0)]
        simp (disch := omega) only [li_1000, c_leF]
        exact Or.inr ⟨_, rfl, by rw [← hg, h0, Nat.gcd_zero_right]⟩
      · have hk2 : k < 124 := by
          rcases Nat.lt_or_ge k 124 with q | q
          · exact q
          · rw [show 124 - k = 0 by omega] at he
            exact absurd he h0
        have hr : a' % b' < b' := Nat.mod_lt _ (by omega)
        rw [if_neg (lg_0F h0 hb'), gd_t (nzl_n h0 hb'), lN_rm ha' (by omega) hb']
        simp (disch := omega) only [li_1, li_1000, c_leF, nI_add]
        refine Or.inl ⟨hk2, _, rfl, b', a' % b', hb', by omega, rfl, ?_, ?_⟩
        · rw [← hg, Nat.gcd_comm a' b', Nat.gcd_rec b' a', Nat.gcd_comm]
        · rw [show 124 - k = (124 - (k + 1)) + 1 by omega] at he
          exact he.resolve_left h0)
  rw [bi_nd e, hx]
/-- a fraction comes to the row -/
theorem rl_fr {B : Bd_} {T : Nat × (Nat → Nat)} {m : Nat} {C : Lw} {χ σ : St} (h : Rl_ B T m C χ σ) {a b : Nat} (ha : a < 2 ^ 63) (hb0 : 0 < b) (hb : b < 2 ^ 62) : ∃ χ' σ', f_X9_addFraction (sF χ 3 1 0) (lN a) (lN b) = some χ' ∧ f_X12_entersFraction σ (lN a) (lN b) = some ((0 : Int32), σ') ∧ Rl_ B T 2 C χ' σ' := by
  have hg : 0 < Nat.gcd a b := Nat.gcd_pos_of_pos_right a hb0
  have hgl : Nat.gcd a b ≤ b := Nat.le_of_dvd hb0 (Nat.gcd_dvd_right a b)
  obtain ⟨χ3, σ3, e3, e4, h3⟩ := rl_ad (rl_st h) (by omega) (lN a / lN (Nat.gcd a b))
  obtain ⟨χ4, σ4, e5, e6, h4⟩ := rl_ad h3 (by omega) (lN b / lN (Nat.gcd a b))
  refine ⟨χ4, σ4, ?_, ?_, h4⟩
  · unfold f_X9_addFraction
    rw [bi_nd (x9_cm ha hb), if_pos (lg_0P (by omega) (by omega)), gd_t (nzl_n (by omega) (by omega)), bi_nd e3, gd_t (nzl_n (by omega) (by omega)), bi_nd e5]
  · unfold f_X12_entersFraction
    rw [bi_nd (x12_cm ha hb), gd_t (nzl_n (by omega) (by omega)), bi_nd e4, gd_t (nzl_n (by omega) (by omega)), bi_nd e6]
/-- a set that one turns -/
def tnP (B : Bd_) (o s : Nat) : Bool := !s.testBit o && (!dcP B s && dcP B (s ||| 2 ^ o))
section TURN
variable {B : Bd_} {T : Nat × (Nat → Nat)} {m : Nat} {C : Lw} {χ σ : St}
theorem an_2k {s o : Nat} : s &&& 2 ^ o = if s.testBit o = true then 2 ^ o else 0 := by
  apply Nat.eq_of_testBit_eq
  intro i
  rw [Nat.testBit_and, Nat.testBit_two_pow]
  by_cases e : o = i
  · subst e
    cases h : s.testBit o
    · simp
    · simp
  · cases h : s.testBit o
    · simp [e]
    · simp [Nat.testBit_two_pow, e]
theorem Rl_.tn (h : Rl_ B T m C χ σ) {s o : Nat} (hs : s < 256) (ho : o < 8) : f_X2_turnsBy χ 32 (nI s) (nI o) = some (nI (tnP B o s).toNat) ∧ f_X12_turnsIt σ (nI s) (nI o) = some (nI (tnP B o s).toNat) := by
  have h2o : 2 ^ o < 256 := by have := pn_lt (n := o) (by omega); have := Nat.pow_lt_pow_right (a := 2) (by omega) ho; omega
  have hor : s ||| 2 ^ o < 256 := Nat.or_lt_two_pow (n := 8) hs h2o
  have d1 := h.dc (s := s) (by omega)
  have d2 := h.dc (s := s ||| 2 ^ o) (by omega)
  refine ⟨?_, ?_⟩
  · unfold f_X2_turnsBy
    simp (disch := omega) only [li_0, li_1, sh_1, nI_an, nI_or, d1.1, d2.1, ob_s, an_2k]
    unfold tnP
    cases s.testBit o
    · cases dcP B s <;> cases dcP B (s ||| 2 ^ o) <;> rfl
    · rw [if_pos rfl, c_eqF (by have := Nat.two_pow_pos o; omega) (by omega) (by omega)]
      rfl
  · unfold f_X12_turnsIt
    simp (disch := omega) only [li_0, li_1, sh_1, nI_or, x12_ha, d1.2, d2.2, ob_s]
    unfold tnP
    cases s.testBit o <;> cases dcP B s <;> cases dcP B (s ||| 2 ^ o) <;> rfl
end TURN
theorem nI_to {n : Nat} (h : n < 2 ^ 31) : (nI n).toInt64 = lN n := nI_l h
theorem y_30 (χ σ : St) (a1 : Int32) (h : Rel_ χ σ) : ∃ (v : Int32) (χ1 : St) (σ1 : St), f_X11_power χ a1 = some (v, χ1) ∧ f_X12_power σ a1 = some (v, σ1) ∧ Rel_ χ1 σ1 := by
  obtain ⟨B, T, m, C, h⟩ := h
  have h0 := h.th
  have h8 := h.W.1
  have ha := pn_lt h8
  unfold f_X11_power f_X12_power
  generalize sF σ 300 0 (0 : Int32) = σ0 at h0 ⊢
  rcases os_ca h0.W h0.b h0.r a1 with ⟨q1, q2⟩ | ⟨o, ho, rfl, q1, q2⟩
  · simp only [q1, q2, ob_s, c0_0]
    exact ⟨_, _, _, rfl, rfl, h0.rel⟩
  · have hc := cn_le (tnP B o) (2 ^ B.1 - 1 + 1)
    have e1 : iter (fun z : Int32 × Int32 => f_X11_power_s17 χ (nI o) z.1 z.2) FU ((0 : Int32), (0 : Int32)) = some (nI (cn (tnP B o) (2 ^ B.1 - 1 + 1))) := by
      refine it_for (fun k => (nI (cn (tnP B o) k), nI k)) (2 ^ B.1 - 1 + 1) (by omega) rfl (fun k hk => ?_) ?_
      · have et := h0.tn (s := k) (o := o) (by omega) (by omega)
        show f_X11_power_s17 χ (nI o) (nI (cn (tnP B o) k)) (nI k) = _
        unfold f_X11_power_s17 f_X11_power_j43_17
        simp (disch := omega) only [h0.al.1, ob_s, c_ltF, et.1, li_0, li_1, nI_add, cn_s]
        cases tnP B o k <;> rfl
      · show f_X11_power_s17 χ (nI o) (nI (cn (tnP B o) (2 ^ B.1 - 1 + 1))) (nI (2 ^ B.1 - 1 + 1)) = _
        unfold f_X11_power_s17
        simp (disch := omega) only [h0.al.1, ob_s, c_ltT]
    have e2 : iter (fun z : Int32 × Int32 => f_X12_power_s19 σ0 (nI o) z.1 z.2) FU ((0 : Int32), (0 : Int32)) = some (nI (cn (tnP B o) (2 ^ B.1 - 1 + 1))) := by
      refine it_for (fun k => (nI (cn (tnP B o) k), nI k)) (2 ^ B.1 - 1 + 1) (by omega) rfl (fun k hk => ?_) ?_
      · have et := h0.tn (s := k) (o := o) (by omega) (by omega)
        show f_X12_power_s19 σ0 (nI o) (nI (cn (tnP B o) k)) (nI k) = _
        unfold f_X12_power_s19
        simp (disch := omega) only [h0.al.2, ob_s, c_ltF, et.2, li_0, li_1, nI_add, cn_s]
        cases tnP B o k
        · rw [show f_X12_flag (nI (false).toNat) = some (nI 0) from rfl, ob_s, nI_add]; rfl
        · rw [show f_X12_flag (nI (true).toNat) = some (nI 1) from rfl, ob_s, nI_add]; rfl
      · show f_X12_power_s19 σ0 (nI o) (nI (cn (tnP B o) (2 ^ B.1 - 1 + 1))) (nI (2 ^ B.1 - 1 + 1)) = _
        unfold f_X12_power_s19
        simp (disch := omega) only [h0.al.2, ob_s, c_ltT]
    have hp : 2 ^ (B.1 - 1) < 256 := by
      have := Nat.pow_lt_pow_right (a := 2) (by omega) (show B.1 - 1 < 8 by omega)
      omega
    have hp0 := Nat.two_pow_pos (B.1 - 1)
    have g1 : ((1 : Int64) <<< ((nI B.1 - (1 : Int32)).toInt64 &&& 63)) = lN (2 ^ (B.1 - 1)) := by
      have key : ∀ n, n < 9 → 0 < n → ((1 : Int64) <<< ((nI n - (1 : Int32)).toInt64 &&& 63)) = lN (2 ^ (n - 1)) := by decide +kernel
      exact key B.1 (by omega) (by omega)
    have g2 : ((1 : Int32) <<< ((nI B.1 - (1 : Int32)) &&& 31)).toInt64 = lN (2 ^ (B.1 - 1)) := by
      have key : ∀ n, n < 9 → 0 < n → ((1 : Int32) <<< ((nI n - (1 : Int32)) &&& 31)).toInt64 = lN (2 ^ (n - 1)) := by decide +kernel
      exact key B.1 (by omega) (by omega)
    obtain ⟨χ3, σ3, e3, e4, h3⟩ := rl_fr h0 (a := cn (tnP B o) (2 ^ B.1 - 1 + 1)) (b := 2 ^ (B.1 - 1)) (by omega) hp0 (by omega)
    simp only [q1, q2, ob_s, c1_0, bi_nd e1, bi_nd e2, x9_s0, (rl_st h0).b.n, h0.r.n, g1, g2, nI_to (show cn (tnP B o) (2 ^ B.1 - 1 + 1) < 2 ^ 31 by omega), e3, e4]
    exact ⟨_, _, _, rfl, rfl, h3.rel⟩
/-- how many orders -/
def fcN : Nat → Nat
  | 0 => 1
  | n + 1 => (n + 1) * fcN n
theorem fc_ok : ∀ n, n < 9 → f_X1_ordersOf (nI n) = some (lN (fcN n)) ∧ f_X12_ordersOf 20 (nI n) = some (lN (fcN n)) ∧ 0 < fcN n ∧ fcN n ≤ 40320 := by decide +kernel
def orF (B : Bd_) (o s : Nat) : Nat := if tnP B o s = true then fcN (pop_ s) * fcN (B.1 - 1 - pop_ s) else 0
theorem y_31 (χ σ : St) (a1 : Int32) (h : Rel_ χ σ) : ∃ (v : Int32) (χ1 : St) (σ1 : St), f_X11_pivots χ a1 = some (v, χ1) ∧ f_X12_pivots σ a1 = some (v, σ1) ∧ Rel_ χ1 σ1 := by
  obtain ⟨B, T, m, C, h⟩ := h
  have h0 := h.th
  have h8 := h.W.1
  have ha := pn_lt h8
  unfold f_X11_pivots f_X12_pivots
  generalize sF σ 300 0 (0 : Int32) = σ0 at h0 ⊢
  rcases os_ca h0.W h0.b h0.r a1 with ⟨q1, q2⟩ | ⟨o, ho, rfl, q1, q2⟩
  · simp only [q1, q2, ob_s, c0_0]
    exact ⟨_, _, _, rfl, rfl, h0.rel⟩
  · have hpk : ∀ k, k ≤ 2 ^ B.1 - 1 → tnP B o k = true → pop_ k ≤ B.1 - 1 := by
      intro k hk ht
      have hb : k.testBit o = false := by
        unfold tnP at ht
        rw [Bool.and_eq_true] at ht
        simpa using ht.1
      have hlt : k < 2 ^ B.1 := by have := Nat.two_pow_pos B.1; omega
      rw [bi_of hlt, pop_bi _ (by omega)]
      have key : ∀ n, cn k.testBit n ≤ n ∧ (o < n → cn k.testBit n ≤ n - 1) := by
        intro n
        induction n with
        | zero => exact ⟨Nat.le_refl _, fun q => absurd q (Nat.not_lt_zero _)⟩
        | succ n ih =>
          rw [cn_s]
          refine ⟨by have := ih.1; split <;> omega, fun q => ?_⟩
          by_cases e : n = o
          · subst e
            have := ih.1
            rw [if_neg (by rw [hb]; decide)]
            omega
          · have h1 := ih.2 (by omega)
            split <;> omega
      exact (key B.1).2 ho
    have hof : ∀ k, k < 2 ^ B.1 - 1 + 1 → orF B o k ≤ 40320 * 40320 := by
      intro k hk
      unfold orF
      split
      · rename_i ht
        have hp := hpk k (by omega) ht
        exact Nat.mul_le_mul (fc_ok (pop_ k) (by omega)).2.2.2 (fc_ok (B.1 - 1 - pop_ k) (by omega)).2.2.2
      · exact Nat.zero_le _
    have hsu : su (orF B o) (2 ^ B.1 - 1 + 1) ≤ 40320 * 40320 * (2 ^ B.1 - 1 + 1) := su_le _ _ _ hof
    have hsu2 : 40320 * 40320 * (2 ^ B.1 - 1 + 1) ≤ 40320 * 40320 * 256 := Nat.mul_le_mul_left _ (by omega)
    have e1 : iter (fun z : Int64 × Int32 => f_X11_pivots_s18 χ (nI o) z.1 z.2) FU ((0 : Int64), (0 : Int32)) = some (lN (su (orF B o) (2 ^ B.1 - 1 + 1))) := by
      refine it_for (fun k => (lN (su (orF B o) k), nI k)) (2 ^ B.1 - 1 + 1) (by omega) rfl (fun k hk => ?_) ?_
      · have et := h0.tn (s := k) (o := o) (by omega) (by omega)
        show f_X11_pivots_s18 χ (nI o) (lN (su (orF B o) k)) (nI k) = _
        unfold f_X11_pivots_s18 f_X11_pivots_j74_18
        rw [su_s]
        by_cases ht : tnP B o k = true
        · have hp := hpk k (by omega) ht
          have f1 := (fc_ok (pop_ k) (by omega)).1
          have f2 := (fc_ok (B.1 - 1 - pop_ k) (by omega)).1
          simp (disch := omega) only [h0.al.1, ob_s, c_ltF, et.1, ht, Bool.toNat_true, li_0, li_1, c_eqF, bc_16, h0.b.n, pk_sub, f1, f2, lN_mul, lN_add, nI_add]
          rw [show orF B o k = fcN (pop_ k) * fcN (B.1 - 1 - pop_ k) from if_pos ht]
        · simp (disch := omega) only [h0.al.1, ob_s, c_ltF, et.1, Bool.eq_false_iff.mpr ht, Bool.toNat_false, li_0, li_1, c_eqT, if_true, nI_add]
          rw [show orF B o k = 0 from if_neg ht]
          rfl
      · show f_X11_pivots_s18 χ (nI o) (lN (su (orF B o) (2 ^ B.1 - 1 + 1))) (nI (2 ^ B.1 - 1 + 1)) = _
        unfold f_X11_pivots_s18
        simp (disch := omega) only [h0.al.1, ob_s, c_ltT]
    have e2 : iter (fun z : Int64 × Int32 => f_X12_pivots_s20 σ0 (nI o) z.1 z.2) FU ((0 : Int64), (0 : Int32)) = some (lN (su (orF B o) (2 ^ B.1 - 1 + 1))) := by
      refine it_for (fun k => (lN (su (orF B o) k), nI k)) (2 ^ B.1 - 1 + 1) (by omega) rfl (fun k hk => ?_) ?_
      · have et := h0.tn (s := k) (o := o) (by omega) (by omega)
        show f_X12_pivots_s20 σ0 (nI o) (lN (su (orF B o) k)) (nI k) = _
        unfold f_X12_pivots_s20 f_X12_pivots_j69_20
        rw [su_s]
        by_cases ht : tnP B o k = true
        · have hp := hpk k (by omega) ht
          have f1 := (fc_ok (pop_ k) (by omega)).2.1
          have f2 := (fc_ok (B.1 - 1 - pop_ k) (by omega)).2.1
          simp (disch := omega) only [h0.al.2, ob_s, c_ltF, et.2, ht, Bool.toNat_true, li_0, li_1, c_eqF, bc_16, h0.r.n, pk_sub, f1, f2, lN_mul, lN_add, nI_add]
          rw [show orF B o k = fcN (pop_ k) * fcN (B.1 - 1 - pop_ k) from if_pos ht]
        · simp (disch := omega) only [h0.al.2, ob_s, c_ltF, et.2, Bool.eq_false_iff.mpr ht, Bool.toNat_false, li_0, li_1, lj_0, c_eqT, if_true, bc_16, lN_add, nI_add]
          rw [show orF B o k = 0 from if_neg ht]
      · show f_X12_pivots_s20 σ0 (nI o) (lN (su (orF B o) (2 ^ B.1 - 1 + 1))) (nI (2 ^ B.1 - 1 + 1)) = _
        unfold f_X12_pivots_s20
        simp (disch := omega) only [h0.al.2, ob_s, c_ltT]
    have fn := fc_ok B.1 (by omega)
    obtain ⟨χ3, σ3, e3, e4, h3⟩ := rl_fr h0 (a := su (orF B o) (2 ^ B.1 - 1 + 1)) (b := fcN B.1) (by omega) fn.2.2.1 (by omega)
    simp only [q1, q2, ob_s, c1_0, bi_nd e1, bi_nd e2, x9_s0, (rl_st h0).b.n, h0.r.n, fn.1, fn.2.1, e3, e4]
    exact ⟨_, _, _, rfl, rfl, h3.rel⟩
