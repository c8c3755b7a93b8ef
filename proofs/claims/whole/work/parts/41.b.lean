/-! LAYER 2: views and councils: whole, middle, sorts, tells, jury, rules, parties. -/
theorem xr_lt {a b : Nat} (ha : a ≤ 15) (hb : b ≤ 15) : a ^^^ b < 16 := Nat.xor_lt_two_pow (n := 4) (by omega) (by omega)
theorem an_lt {a b n : Nat} (hb : b < n) : a &&& b < n := Nat.lt_of_le_of_lt Nat.and_le_right hb
theorem al_st {p : Nat → Bool} (n : Nat) : al_ p (n + 1) = (p n && al_ p n) := rfl
theorem al_i {p : Nat → Bool} {n : Nat} (h : ∀ k, k < n → p k = true) : al_ p n = true := by
  induction n with
  | zero => rfl
  | succ n ih => rw [al_st, h n (by omega), ih (fun k hk => h k (by omega))]; rfl
/-- Int32 differences of small numbers -/
theorem df_le {p q : Nat} (hp : p < 2 ^ 30) (hq : q < 2 ^ 30) : (nI p - nI q ≤ nI 0) ↔ p ≤ q := by
  rw [Int32.le_iff_toInt_le, pk_sub_toInt hp hq, nI_toInt (by omega)]
  omega
theorem df_eq {p q : Nat} (hp : p < 2 ^ 30) (hq : q < 2 ^ 30) : (nI p - nI q = nI 0) ↔ p = q := by
  rw [← Int32.toInt_inj, pk_sub_toInt hp hq, nI_toInt (by omega)]
  omega
theorem df_ab {p q : Nat} (hp : p < 2 ^ 30) (hq : q < 2 ^ 30) : (if (0 : Int32) ≤ nI p - nI q then nI p - nI q else 0 - (nI p - nI q)) = nI (if q ≤ p then p - q else q - p) := by
  by_cases h : q ≤ p
  · rw [pk_sub h, if_pos (nI_pos' (by omega)), if_pos h]
  · rw [if_neg h, if_neg]
    · apply Int32.toInt_inj.mp
      rw [Int32.toInt_sub, pk_sub_toInt hp hq, nI_toInt (by omega), show (0 : Int32).toInt = 0 from rfl, Int.bmod_eq_of_le (by omega) (by omega)]
      omega
    · rw [Int32.le_iff_toInt_le, pk_sub_toInt hp hq, show (0 : Int32).toInt = 0 from rfl]
      omega
def frN (B : Bd_) (v : Nat) : Nat := su (fun k => pop_ (B.2.1 2 k ^^^ v)) B.1
def fsN (B : Bd_) (v : Nat) : Nat := mxN (fun k => pop_ (B.2.1 2 k ^^^ v)) B.1
/-- a set's majority in a topic -/
def mP (B : Bd_) (s t : Nat) : Bool := decide (pop_ s < 2 * pop_ (bi (yP_ B t) B.1 &&& s))
def vP (B : Bd_) (v k : Nat) : Bool := decide (B.2.1 2 k = v)
section VIEWS
variable {B : Bd_} {T : Nat × (Nat → Nat)} {m : Nat} {C : Lw} {χ σ : St}
theorem Rl_.v (h : Rl_ B T m C χ σ) {k : Nat} (hk : k < B.1) : cA χ 35 k = nI (B.2.1 2 k) ∧ cA σ 306 (8 + k) = nI (B.2.1 2 k) ∧ B.2.1 2 k ≤ 15 := ⟨h.b.k2 hk, h.r.k2 hk, h.W.b2 hk⟩
theorem Rl_.f (h : Rl_ B T m C χ σ) {k : Nat} (hk : k < B.1) : cA χ 34 k = nI (B.2.1 1 k) ∧ cA σ 306 k = nI (B.2.1 1 k) ∧ B.2.1 1 k ≤ 9 := ⟨h.b.k1 hk, h.r.k1 hk, h.W.b1 hk⟩
theorem fr_le {v : Nat} (B : Bd_) (h8 : B.1 ≤ 8) : frN B v ≤ 128 := Nat.le_trans (su_le _ 16 B.1 (fun i _ => pop_le _)) (by omega)
theorem Rl_.fr (h : Rl_ B T m C χ σ) {v : Nat} (hv : v ≤ 15) : f_X10_farFromAll χ 32 (nI v) = some (nI (frN B v)) ∧ f_X12_farOf σ (nI v) = some (nI (frN B v)) := by
  have h8 := h.W.1
  refine ⟨?_, ?_⟩
  · unfold f_X10_farFromAll
    refine bi_nd (it_for (fun k => (nI (su (fun k => pop_ (B.2.1 2 k ^^^ v)) k), nI k)) B.1 (by omega) rfl (fun k hk => ?_) ?_)
    · obtain ⟨h1, -, h2⟩ := h.v hk
      have hx := xr_lt h2 hv
      show f_X10_farFromAll_s4 32 χ (nI v) (nI (su (fun k => pop_ (B.2.1 2 k ^^^ v)) k)) (nI k) = _
      unfold f_X10_farFromAll_s4
      simp (disch := omega) only [h.b.n, h1, li_1, c_leF, gd_n, nI_clamp, nI_add, nI_xo, bc_16, ob_s, su_s]
    · show f_X10_farFromAll_s4 32 χ (nI v) (nI (su (fun k => pop_ (B.2.1 2 k ^^^ v)) B.1)) (nI B.1) = _
      unfold f_X10_farFromAll_s4
      simp (disch := omega) only [h.b.n, c_leT]
      rfl
  · unfold f_X12_farOf
    refine bi_nd (it_for (fun k => (nI (su (fun k => pop_ (B.2.1 2 k ^^^ v)) k), nI k)) B.1 (by omega) rfl (fun k hk => ?_) ?_)
    · obtain ⟨-, h1, h2⟩ := h.v hk
      have hx := xr_lt h2 hv
      show f_X12_farOf_s4 σ (nI v) (nI (su (fun k => pop_ (B.2.1 2 k ^^^ v)) k)) (nI k) = _
      unfold f_X12_farOf_s4 f_X12_apart
      simp (disch := omega) only [h.r.n, h1, li_1, li_8, c_leF, gd_n, nI_clamp, nI_add, nI_xo, Nat.xor_comm v, bc_16, ob_s, su_s]
    · show f_X12_farOf_s4 σ (nI v) (nI (su (fun k => pop_ (B.2.1 2 k ^^^ v)) B.1)) (nI B.1) = _
      unfold f_X12_farOf_s4
      simp (disch := omega) only [h.r.n, c_leT]
      rfl
theorem mx_b (B : Bd_) (v k : Nat) : mxN (fun k => pop_ (B.2.1 2 k ^^^ v)) k ≤ 16 := mxN_le (fun i _ => pop_le _)
theorem Rl_.fs (h : Rl_ B T m C χ σ) {v : Nat} (hv : v ≤ 15) : f_X10_farthestFrom χ 32 (nI v) = some (nI (fsN B v)) := by
  have h8 := h.W.1
  unfold f_X10_farthestFrom
  refine bi_nd (it_for (fun k => (nI (mxN (fun k => pop_ (B.2.1 2 k ^^^ v)) k), nI k)) B.1 (by omega) rfl (fun k hk => ?_) ?_)
  · obtain ⟨h1, -, h2⟩ := h.v hk
    have hx := xr_lt h2 hv
    have hp := pop_le (B.2.1 2 k ^^^ v)
    have hm := mx_b B v k
    show f_X10_farthestFrom_s4 32 χ (nI v) (nI (mxN (fun k => pop_ (B.2.1 2 k ^^^ v)) k)) (nI k) = _
    unfold f_X10_farthestFrom_s4
    simp (disch := omega) only [h.b.n, h1, li_1, c_leF, gd_n, nI_clamp, nI_add, nI_xo, bc_16, ob_s, mxN_s, c_ltN, nI_sI]
  · show f_X10_farthestFrom_s4 32 χ (nI v) (nI (mxN (fun k => pop_ (B.2.1 2 k ^^^ v)) B.1)) (nI B.1) = _
    unfold f_X10_farthestFrom_s4
    simp (disch := omega) only [h.b.n, c_leT]
    rfl
end VIEWS
theorem y_25 (χ σ : St) (h : Rel_ χ σ) : ∃ (v : Int32) (χ1 : St) (σ1 : St), f_X11_middle χ = some (v, χ1) ∧ f_X12_middle σ = some (v, σ1) ∧ Rel_ χ1 σ1 := by
  obtain ⟨B, T, m, C, h⟩ := h
  have h0 := h.th
  have h8 := h.W.1
  unfold f_X11_middle f_X12_middle
  obtain ⟨x, y, e1, e2, b, hb, rfl, rfl⟩ := it_twn (st1 := fun z : Int32 × Int32 => f_X11_middle_s4 χ z.1 z.2) (st2 := fun z : Int32 × Int32 => f_X12_middle_s9 (sF σ 300 0 (0 : Int32)) z.1 z.2) (s := ((0 : Int32), (1 : Int32))) (t := ((0 : Int32), (1 : Int32)))
    (fun k s u => ∃ b, b ≤ 15 ∧ s = (nI b, nI (k + 1)) ∧ u = (nI b, nI (k + 1))) (fun x y => ∃ b, b ≤ 15 ∧ x = nI b ∧ y = nI b) 15 (by omega) ⟨0, by omega, rfl, rfl⟩
    (fun k s u hk hI => by
      obtain ⟨b, hb, rfl, rfl⟩ := hI
      have e1 := h0.fr (v := k + 1) (by omega)
      have e2 := h0.fr hb
      have b1 := fr_le (v := k + 1) B h8
      have b2 := fr_le (v := b) B h8
      show ∃ s' t', f_X11_middle_s4 χ (nI b) (nI (k + 1)) = some (.inl s') ∧ f_X12_middle_s9 (sF σ 300 0 (0 : Int32)) (nI b) (nI (k + 1)) = some (.inl t') ∧ _
      unfold f_X11_middle_s4 f_X11_middle_j31_4 f_X12_middle_s9 f_X12_middle_j33_9
      simp (disch := omega) only [li_1, li_16, c_leF, e1.1, e1.2, e2.1, e2.2, ob_s, nI_add, c_leN, nI_sI]
      refine ⟨_, _, rfl, rfl, _, ?_, rfl, rfl⟩
      split <;> omega)
    (fun s u hI => by
      obtain ⟨b, hb, rfl, rfl⟩ := hI
      exact ⟨_, _, rfl, rfl, b, hb, rfl, rfl⟩)
  have h2 := rl_st h0
  obtain ⟨χ3, σ3, e3, e4, h3⟩ := rl_ad h2 (by omega) (nI (frN B b)).toInt64
  obtain ⟨χ4, σ4, e5, e6, h4⟩ := rl_ad h3 (by omega) (nI (fsN B b)).toInt64
  have e7 : iter (fun z : Int32 × Int32 => f_X12_middle_s44 (sF σ 300 0 (0 : Int32)) (nI b) z.1 z.2) FU ((0 : Int32), (0 : Int32)) = some (nI (fsN B b)) := by
    refine it_for (fun k => (nI (mxN (fun k => pop_ (B.2.1 2 k ^^^ b)) k), nI k)) B.1 (by omega) rfl (fun k hk => ?_) ?_
    · obtain ⟨-, h1, h2⟩ := h0.v hk
      have hx := xr_lt h2 hb
      have hp := pop_le (B.2.1 2 k ^^^ b)
      have hm := mx_b B b k
      show f_X12_middle_s44 (sF σ 300 0 (0 : Int32)) (nI b) (nI (mxN (fun k => pop_ (B.2.1 2 k ^^^ b)) k)) (nI k) = _
      unfold f_X12_middle_s44 f_X12_apart
      simp (disch := omega) only [h0.r.n, h1, li_1, li_8, c_leF, gd_n, nI_clamp, nI_add, nI_xo, Nat.xor_comm b, bc_16, ob_s, mxN_s, c_ltN, nI_sI]
    · show f_X12_middle_s44 (sF σ 300 0 (0 : Int32)) (nI b) (nI (mxN (fun k => pop_ (B.2.1 2 k ^^^ b)) B.1)) (nI B.1) = _
      unfold f_X12_middle_s44
      simp (disch := omega) only [h0.r.n, c_leT]
      rfl
  simp only [bi_nd e1, bi_nd e2, bi_nd e7, x9_s0, ob_s, (h2.fr hb).1, (h2.fr hb).2, (h3.fs hb), e3, e4, e5, e6]
  exact ⟨_, _, _, rfl, rfl, h4.rel⟩
section MOST
variable {B : Bd_} {T : Nat × (Nat → Nat)} {m : Nat} {C : Lw} {χ σ : St}
theorem Rl_.mo (h : Rl_ B T m C χ σ) {s : Nat} (hs : s < 256) : f_X10_ofMost χ 32 (nI s) = some (nI (bi (mP B s) 4)) := by
  have h8 := h.W.1
  unfold f_X10_ofMost
  refine bi_nd (it_for (fun k => (nI (bi (mP B s) k), nI k)) 4 (by omega) rfl (fun k hk => ?_) ?_)
  · have hx : bi (yP_ B k) B.1 &&& s < 65536 := an_lt (by omega)
    have b1 := pop_le (bi (yP_ B k) B.1 &&& s)
    have b2 := pop_le s
    show f_X10_ofMost_s4 32 χ (nI s) (nI (bi (mP B s) k)) (nI k) = _
    unfold f_X10_ofMost_s4 f_X10_ofMost_j34_4
    simp (disch := omega) only [li_1, li_2, li_4, c_leF, (h.ye hk).1, ob_s, nI_an, bc_16, pk_mul, nI_add, sh_1]
    by_cases hp : mP B s k = true
    · have h2 : pop_ s < 2 * pop_ (bi (yP_ B k) B.1 &&& s) := of_decide_eq_true hp
      simp (disch := omega) only [c_leF, bi_T hp]
    · have h2 : ¬ pop_ s < 2 * pop_ (bi (yP_ B k) B.1 &&& s) := fun e => hp (decide_eq_true e)
      simp (disch := omega) only [c_leT]
      rw [← bi_F hp]
  · rfl
theorem Rl_.mr (h : Rl_ B T m C χ σ) {s t : Nat} (hs : s < 256) (ht : t < 4) : f_X12_moreOf σ (nI s) (nI t) = some (nI (2 * pop_ (bi (yP_ B t) B.1 &&& s)) - nI (pop_ s)) := by
  have hx : bi (yP_ B t) B.1 &&& s < 65536 := an_lt (by omega)
  unfold f_X12_moreOf
  simp (disch := omega) only [li_2, (h.ye ht).2, ob_s, nI_an, bc_16, pk_mul]
theorem mr_le {B : Bd_} {s t : Nat} {x y : Int32} {d : Decidable (nI (2 * pop_ (bi (yP_ B t) B.1 &&& s)) - nI (pop_ s) ≤ nI 0)} : (@ite _ (nI (2 * pop_ (bi (yP_ B t) B.1 &&& s)) - nI (pop_ s) ≤ nI 0) d x y) = if mP B s t = true then y else x := by
  have b1 := pop_le (bi (yP_ B t) B.1 &&& s)
  have b2 := pop_le s
  by_cases hp : mP B s t = true
  · have h2 : pop_ s < 2 * pop_ (bi (yP_ B t) B.1 &&& s) := of_decide_eq_true hp
    rw [if_pos hp, if_neg (fun q => by have := (df_le (by omega) (by omega)).mp q; omega)]
  · have h2 : ¬ pop_ s < 2 * pop_ (bi (yP_ B t) B.1 &&& s) := fun e => hp (decide_eq_true e)
    rw [if_neg hp, if_pos ((df_le (by omega) (by omega)).mpr (by omega))]
theorem pn_lt {n : Nat} (h : n ≤ 8) : 2 ^ n - 1 < 256 := by
  have := Nat.pow_le_pow_right (n := 2) (by omega) h
  omega
theorem pop_all {n : Nat} (h : n ≤ 8) : pop_ (2 ^ n - 1) = n := by
  rw [bi_n1, pop_bi _ (by omega)]
  have : ∀ k, cn (fun _ => true) k = k := by
    intro k
    induction k with
    | zero => rfl
    | succ k ih => rw [cn_s, ih]; rfl
  exact this n
theorem bi_all (p : Nat → Bool) (n : Nat) : bi p n &&& (2 ^ n - 1) = bi p n := by
  rw [bi_n1, bi_and]
  exact bi_ex (fun i _ => Bool.and_true _)
theorem Rl_.wi (h : Rl_ B T m C χ σ) {v : Nat} (hv : v < 2 ^ 31) : f_X10_onesWith χ 32 (nI v) = some (nI (bi (vP B v) B.1)) ∧ f_X12_alike σ (nI v) = some (nI (bi (vP B v) B.1)) := by
  have h8 := h.W.1
  refine ⟨?_, ?_⟩
  · unfold f_X10_onesWith
    refine bi_nd (it_for (fun k => (nI (bi (vP B v) k), nI k)) B.1 (by omega) rfl (fun k hk => ?_) ?_)
    · obtain ⟨h1, -, h2⟩ := h.v hk
      show f_X10_onesWith_s4 32 χ (nI v) (nI (bi (vP B v) k)) (nI k) = _
      unfold f_X10_onesWith_s4 f_X10_onesWith_j28_4
      simp (disch := omega) only [h.b.n, h1, li_1, c_leF, gd_n, nI_clamp, nI_add, sh_1]
      by_cases hp : vP B v k = true
      · have h2 : B.2.1 2 k = v := of_decide_eq_true hp
        rw [if_pos (by rw [h2]), bi_T hp]
      · have h2 : ¬ B.2.1 2 k = v := fun e => hp (decide_eq_true e)
        rw [if_neg (fun q => h2 ((nI_eq (by omega) hv).mp q)), ← bi_F hp]
    · show f_X10_onesWith_s4 32 χ (nI v) (nI (bi (vP B v) B.1)) (nI B.1) = _
      unfold f_X10_onesWith_s4
      simp (disch := omega) only [h.b.n, c_leT]
  · unfold f_X12_alike
    refine bi_nd (it_for (fun k => (nI (bi (vP B v) k), nI k)) B.1 (by omega) rfl (fun k hk => ?_) ?_)
    · obtain ⟨-, h1, h2⟩ := h.v hk
      show f_X12_alike_s4 σ (nI v) (nI (bi (vP B v) k)) (nI k) = _
      unfold f_X12_alike_s4 f_X12_alike_j33_4
      simp (disch := omega) only [h.r.n, h1, li_0, li_1, li_8, c_leF, gd_n, nI_clamp, nI_add, sh_1]
      by_cases hp : vP B v k = true
      · have h2 : B.2.1 2 k = v := of_decide_eq_true hp
        rw [if_pos (by rw [h2]), bi_T hp]
      · have h2 : ¬ B.2.1 2 k = v := fun e => hp (decide_eq_true e)
        rw [if_neg (fun q => h2 ((nI_eq (by omega) hv).mp q)), ← bi_F0 hp]
    · show f_X12_alike_s4 σ (nI v) (nI (bi (vP B v) B.1)) (nI B.1) = _
      unfold f_X12_alike_s4
      simp (disch := omega) only [h.r.n, c_leT]
end MOST
/-- topics in which as many hold yes as no -/
def tiP (B : Bd_) (t : Nat) : Bool := decide (2 * cn (yP_ B t) B.1 = B.1)
theorem y_24 (χ σ : St) (h : Rel_ χ σ) : ∃ (v : Int32) (χ1 : St) (σ1 : St), f_X11_whole χ = some (v, χ1) ∧ f_X12_whole σ = some (v, σ1) ∧ Rel_ χ1 σ1 := by
  obtain ⟨B, T, m, C, h⟩ := h
  have h0 := h.th
  have h8 := h.W.1
  have ha := pn_lt h8
  have hv := bi_lt (mP B (2 ^ B.1 - 1)) 4
  have hpa := pop_all h8
  unfold f_X11_whole f_X12_whole
  generalize sF σ 300 0 (0 : Int32) = σ1 at h0 ⊢
  have e1 : iter (fun z : Int32 × Int32 × Int32 => f_X12_whole_s11 σ1 z.1 z.2.1 z.2.2) FU ((0 : Int32), (0 : Int32), (0 : Int32)) = some (nI (bi (mP B (2 ^ B.1 - 1)) 4), nI (cn (tiP B) 4)) := by
    refine it_for (fun k => (nI (bi (mP B (2 ^ B.1 - 1)) k), nI (cn (tiP B) k), nI k)) 4 (by omega) rfl (fun k hk => ?_) rfl
    have hc := cn_le (tiP B) k
    have hy := cn_le (yP_ B k) B.1
    show f_X12_whole_s11 σ1 (nI (bi (mP B (2 ^ B.1 - 1)) k)) (nI (cn (tiP B) k)) (nI k) = _
    unfold f_X12_whole_s11 f_X12_whole_j36_11 f_X12_whole_j56_11
    simp (disch := omega) only [li_0, li_1, li_4, c_leF, h0.al.2, ob_s, h0.mr, sh_1, mr_le]
    rw [bi_all, pop_bi _ (show B.1 ≤ 16 by omega), hpa]
    have hti : (if nI (2 * cn (yP_ B k) B.1) - nI B.1 = nI 0 then nI 1 else nI 0) = nI (tiP B k).toNat := by
      unfold tiP
      by_cases hq : 2 * cn (yP_ B k) B.1 = B.1
      · rw [if_pos ((df_eq (by omega) (by omega)).mpr hq), decide_eq_true hq]; rfl
      · rw [if_neg (fun q => hq ((df_eq (by omega) (by omega)).mp q)), decide_eq_false hq]; rfl
    rw [hti]
    have hcs : nI (cn (tiP B) k) + nI (tiP B k).toNat = nI (cn (tiP B) (k + 1)) := by
      rw [nI_add, cn_s]; cases tiP B k <;> rfl
    have hfl : f_X12_flag (nI (tiP B k).toNat) = some (nI (tiP B k).toNat) := by cases tiP B k <;> rfl
    rw [hfl]
    by_cases hp : mP B (2 ^ B.1 - 1) k = true
    · rw [if_pos hp, bi_T hp]
      show some (Sum.inl (nI (bi (mP B (2 ^ B.1 - 1)) (k + 1)), nI (cn (tiP B) k) + nI (tiP B k).toNat, nI k + nI 1)) = _
      rw [hcs, nI_add]
    · rw [if_neg hp, bi_F0 hp]
      show some (Sum.inl (nI (bi (mP B (2 ^ B.1 - 1)) (k + 1)), nI (cn (tiP B) k) + nI (tiP B k).toNat, nI k + nI 1)) = _
      rw [hcs, nI_add]
  have e2 : iter (fun z : Int32 × Int32 => f_X12_whole_s72 σ1 (nI (bi (mP B (2 ^ B.1 - 1)) 4)) (nI (cn (tiP B) 4)) z.1 z.2) FU ((0 : Int32), (0 : Int32)) = some (nI (cn (vP B (bi (mP B (2 ^ B.1 - 1)) 4)) B.1)) := by
    refine it_for (fun k => (nI (cn (vP B (bi (mP B (2 ^ B.1 - 1)) 4)) k), nI k)) B.1 (by omega) rfl (fun k hk => ?_) ?_
    · obtain ⟨-, h1, h2⟩ := h0.v hk
      show f_X12_whole_s72 σ1 (nI (bi (mP B (2 ^ B.1 - 1)) 4)) (nI (cn (tiP B) 4)) (nI (cn (vP B (bi (mP B (2 ^ B.1 - 1)) 4)) k)) (nI k) = _
      generalize bi (mP B (2 ^ B.1 - 1)) 4 = v at hv ⊢
      unfold f_X12_whole_s72 f_X12_whole_j101_72
      simp (disch := omega) only [h0.r.n, h1, li_0, li_1, li_8, c_leF, gd_n, nI_clamp, nI_add]
      by_cases hp : vP B v k = true
      · have h2 : B.2.1 2 k = v := of_decide_eq_true hp
        rw [if_pos (by rw [h2]), fl_1, ← cn_T hp, ob_s, nI_add]
      · have h2 : ¬ B.2.1 2 k = v := fun e => hp (decide_eq_true e)
        rw [if_neg (fun q => h2 ((nI_eq (by omega) (by omega)).mp q)), fl_0, ← cn_F hp, ob_s, nI_add, Nat.add_zero]
    · show f_X12_whole_s72 σ1 (nI (bi (mP B (2 ^ B.1 - 1)) 4)) (nI (cn (tiP B) 4)) (nI (cn (vP B (bi (mP B (2 ^ B.1 - 1)) 4)) B.1)) (nI B.1) = _
      unfold f_X12_whole_s72
      simp (disch := omega) only [h0.r.n, c_leT]
  have h2 := rl_st h0
  obtain ⟨χ3, σ3, e3, e4, h3⟩ := rl_ad h2 (by omega) (nI (cn (vP B (bi (mP B (2 ^ B.1 - 1)) 4)) B.1)).toInt64
  obtain ⟨χ4, σ4, e5, e6, h4⟩ := rl_ad h3 (by omega) (nI (cn (tiP B) 4)).toInt64
  have e7 : f_X10_ties χ3 32 = some (nI (cn (tiP B) 4)) := by
    unfold f_X10_ties
    refine bi_nd (it_for (fun k => (nI (cn (tiP B) k), nI k)) 4 (by omega) rfl (fun k hk => ?_) rfl)
    have hy := cn_le (yP_ B k) B.1
    show f_X10_ties_s4 32 χ3 (nI (cn (tiP B) k)) (nI k) = _
    unfold f_X10_ties_s4 f_X10_ties_j29_4
    simp (disch := omega) only [li_1, li_2, li_4, c_leF, (h3.ye hk).1, ob_s, h3.b16, h3.b.n, pk_mul, nI_add]
    by_cases hq : 2 * cn (yP_ B k) B.1 = B.1
    · rw [if_pos (by rw [hq]), cn_T (p := tiP B) (decide_eq_true hq)]
    · rw [if_neg (fun q => hq ((nI_eq (by omega) (by omega)).mp q)), ← cn_F (p := tiP B) (fun q => hq (of_decide_eq_true q))]
  simp only [h.al.1, h.mo ha, (h2.wi (v := bi (mP B (2 ^ B.1 - 1)) 4) (by omega)).1, h.b16, bi_nd e1, bi_nd e2, e7, x9_s0, ob_s, e3, e4, e5, e6]
  exact ⟨_, _, _, rfl, rfl, h4.rel⟩
