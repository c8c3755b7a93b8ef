/-! LAYER 2: the least and the greatest of some; cares. -/
theorem lo_ex : ∀ n b, 0 < b → b < 2 ^ n → ∃ k m, k < n ∧ b = 2 ^ k * (2 * m + 1) := by
  intro n
  induction n with
  | zero => intro b h0 h; exact absurd h (by omega)
  | succ n ih =>
    intro b h0 h
    rcases Nat.mod_two_eq_zero_or_one b with e | e
    · obtain ⟨k, m, hk, hm⟩ := ih (b / 2) (by omega) (by rw [Nat.pow_succ] at h; omega)
      refine ⟨k + 1, m, by omega, ?_⟩
      rw [Nat.pow_succ, Nat.mul_assoc, Nat.mul_comm 2, ← Nat.mul_assoc, ← hm]
      omega
    · exact ⟨0, b / 2, by omega, by omega⟩
theorem hi_ex : ∀ n b, 0 < b → b < 2 ^ n → ∃ k, k < n ∧ 2 ^ k ≤ b ∧ b < 2 ^ (k + 1) := by
  intro n
  induction n with
  | zero => intro b h0 h; exact absurd h (by omega)
  | succ n ih =>
    intro b h0 h
    by_cases e : 2 ^ n ≤ b
    · exact ⟨n, by omega, e, h⟩
    · obtain ⟨k, hk, h1⟩ := ih b h0 (by omega)
      exact ⟨k, by omega, h1⟩
theorem tb_lo {k m j : Nat} : (2 ^ k * (2 * m + 1)).testBit j = if j < k then false else (2 * m + 1).testBit (j - k) := by
  have h := Nat.testBit_two_pow_mul_add (2 * m + 1) (b := 0) (i := k) (Nat.two_pow_pos k) j
  rw [Nat.add_zero, Nat.zero_testBit] at h
  exact h
def tzf (i : Int32) : Option Int32 := (if 0 < i then f_J6_numberOfTrailingZeros_0f7a4_j34 (if i ≤ (65536 : Int32) then i else (i.toUInt32 >>> ((16 : Int32).toUInt32 &&& Int32.toUInt32 31)).toInt32) (if i ≤ (65536 : Int32) then (1 : Int32) else ((1 : Int32) + (16 : Int32))) else some (i &&& (32 : Int32)))
theorem tzf_k : ∀ k, k < 16 → tzf (nI (2 ^ k - 1)) = some (nI k) := by decide +kernel
theorem tz_n {k m : Nat} (hk : k < 16) (hb : 2 ^ k * (2 * m + 1) < 65536) : f_J6_numberOfTrailingZeros_0f7a4 (nI (2 ^ k * (2 * m + 1))) = some (nI k) := by
  have hp := Nat.two_pow_pos k
  have e0 : 2 ^ k * (2 * m + 1) - 1 = 2 ^ k * (2 * m) + (2 ^ k - 1) := by rw [Nat.mul_add, Nat.mul_one]; omega
  have h1 : 1 ≤ 2 ^ k * (2 * m + 1) := Nat.mul_pos hp (by omega)
  show tzf ((nI (2 ^ k * (2 * m + 1)) ^^^ (-1 : Int32)) &&& (nI (2 ^ k * (2 * m + 1)) - (1 : Int32))) = _
  have e : (nI (2 ^ k * (2 * m + 1)) ^^^ (-1 : Int32)) &&& (nI (2 ^ k * (2 * m + 1)) - (1 : Int32)) = nI (2 ^ k - 1) := by
    rw [Int32.and_comm, show (1 : Int32) = nI 1 from rfl, pk_sub h1, bi_nt (by omega) (by omega)]
    congr 1
    apply Nat.eq_of_testBit_eq
    intro i
    rw [bi_tb, Nat.testBit_two_pow_sub_one, tb_lo, e0, Nat.testBit_two_pow_mul_add (2 * m) (by omega) i]
    by_cases q : i < k
    · rw [if_pos q, if_pos q, Nat.testBit_two_pow_sub_one, decide_eq_true q, decide_eq_true (show i < 31 by omega)]; rfl
    · rw [if_neg q, if_neg q, decide_eq_false q]
      cases hj : i - k with
      | zero => rw [Nat.testBit_zero, show 2 * m % 2 = 0 by omega]; simp
      | succ j => rw [Nat.testBit_succ, Nat.testBit_succ, show (2 * m + 1) / 2 = m by omega, show 2 * m / 2 = m by omega]; cases m.testBit j <;> simp
  rw [e]
  exact tzf_k k hk
theorem lz_48 : ∀ x, x < 256 → ∀ K, K < 8 → 2 ^ K ≤ x → x < 2 ^ (K + 1) → f_J6_numberOfLeadingZeros_0f7a4_j48 (nI x) (31 : Int32) = some (nI (31 - K)) ∧ f_J6_numberOfLeadingZeros_0f7a4_j48 (nI x) ((31 : Int32) + (-8 : Int32)) = some (nI (23 - K)) := by decide +kernel
theorem lz_n {K b : Nat} (hK : K < 16) (h1 : 2 ^ K ≤ b) (h2 : b < 2 ^ (K + 1)) (hb : b < 65536) : f_J6_numberOfLeadingZeros_0f7a4 (nI b) = some (nI (31 - K)) := by
  have hp := Nat.two_pow_pos K
  unfold f_J6_numberOfLeadingZeros_0f7a4
  rw [if_pos (show (0 : Int32) < nI b from nI_lt (a := 0) (by omega) (by omega)), if_pos (show nI b < (65536 : Int32) from nI_lt (b := 65536) hb (by omega)), if_pos (show nI b < (65536 : Int32) from nI_lt (b := 65536) hb (by omega))]
  unfold f_J6_numberOfLeadingZeros_0f7a4_j33
  by_cases q : b < 256
  · have hK8 : K < 8 := by
      rcases Nat.lt_or_ge K 8 with h | h
      · exact h
      · have : 2 ^ 8 ≤ 2 ^ K := Nat.pow_le_pow_right (by omega) h
        omega
    rw [if_pos (show nI b < (256 : Int32) from nI_lt (b := 256) q (by omega)), if_pos (show nI b < (256 : Int32) from nI_lt (b := 256) q (by omega))]
    exact (lz_48 b q K hK8 h1 h2).1
  · obtain ⟨L, rfl⟩ : ∃ L, K = L + 8 := ⟨K - 8, by
      have : 8 ≤ K := by
        rcases Nat.lt_or_ge K 8 with h | h
        · have : 2 ^ (K + 1) ≤ 2 ^ 8 := Nat.pow_le_pow_right (by omega) (by omega)
          omega
        · exact h
      omega⟩
    rw [if_neg (show ¬ nI b < (256 : Int32) from fun h => q ((nI_ltI (b := 256) (by omega) (by omega)).mp h)), if_neg (show ¬ nI b < (256 : Int32) from fun h => q ((nI_ltI (b := 256) (by omega) (by omega)).mp h)), show (8 : Int32) = nI 8 from rfl, us_n 8 (by omega) (by omega), Nat.shiftRight_eq_div_pow]
    rw [Nat.pow_add] at h1
    rw [show L + 8 + 1 = (L + 1) + 8 by omega, Nat.pow_add] at h2
    have := (lz_48 (b / 2 ^ 8) (by omega) L (by omega) (by omega) (by omega)).2
    rw [show (31 : Int32) + -nI 8 = (31 : Int32) + (-8 : Int32) from rfl, this, show 31 - (L + 8) = 23 - L by omega]
theorem le_in {k m : Nat} (hk : k < 16) (hb : 2 ^ k * (2 * m + 1) < 65536) : f_X10_leastIn (nI (2 ^ k * (2 * m + 1))) = some (nI k) := by
  unfold f_X10_leastIn
  refine bi_nd (it_for (fun j => nI j) k (by omega) rfl (fun j hj => ?_) ?_)
  · show f_X10_leastIn_s2 _ (nI j) = _
    unfold f_X10_leastIn_s2
    rw [if_neg (show ¬ (16 : Int32) ≤ nI j from nI_ge (b := 16) (by omega) (by omega)), show (1 : Int32) = nI 1 from rfl, ha_n (by omega) (by omega), tb_lo, if_pos hj, if_pos (show nI (false).toNat = 0 from rfl), nI_add]
  · show f_X10_leastIn_s2 _ (nI k) = _
    unfold f_X10_leastIn_s2
    rw [if_neg (show ¬ (16 : Int32) ≤ nI k from nI_ge (b := 16) (by omega) (by omega)), show (1 : Int32) = nI 1 from rfl, ha_n (by omega) (by omega), tb_lo, if_neg (Nat.lt_irrefl k), Nat.sub_self, Nat.testBit_zero, show (2 * m + 1) % 2 = 1 by omega, if_neg (show ¬ nI (decide (1 = 1)).toNat = 0 by decide)]
theorem gr_in {K b : Nat} (hK : K < 16) (h1 : 2 ^ K ≤ b) (h2 : b < 2 ^ (K + 1)) (hb : b < 65536) : f_X10_greatestIn (nI b) = some (nI K) := by
  unfold f_X10_greatestIn
  refine bi_nd (it_for (fun j => nI (15 - j)) (15 - K) (by omega) rfl (fun j hj => ?_) ?_)
  · show f_X10_greatestIn_s3 _ (nI (15 - j)) = _
    unfold f_X10_greatestIn_s3
    rw [if_neg (show ¬ nI (15 - j) ≤ (0 : Int32) from nI_ge (a := 0) (by omega) (by omega)), show (1 : Int32) = nI 1 from rfl, ha_n (by omega) (by omega), Nat.testBit_lt_two_pow (Nat.lt_of_lt_of_le h2 (Nat.pow_le_pow_right (by omega) (by omega))), if_pos (show nI (false).toNat = 0 from rfl), ad_m1 (by omega), show 15 - j - 1 = 15 - (j + 1) by omega]
  · show f_X10_greatestIn_s3 _ (nI (15 - (15 - K))) = _
    unfold f_X10_greatestIn_s3
    rw [show 15 - (15 - K) = K by omega]
    by_cases q : K = 0
    · subst q
      rw [if_pos (by decide)]
    · have e : b.testBit K = true := by
        rw [Nat.testBit_eq_decide_div_mod_eq, show b / 2 ^ K = 1 from Nat.div_eq_of_lt_le (by omega) (by rw [Nat.pow_succ] at h2; omega)]
        rfl
      rw [if_neg (show ¬ nI K ≤ (0 : Int32) from nI_ge (a := 0) (by omega) (by omega)), show (1 : Int32) = nI 1 from rfl, ha_n (by omega) (by omega), e, if_neg (show ¬ nI (true).toNat = 0 by decide)]
theorem y_36 (χ σ : St) (a1 : Int32) (h : Rel_ χ σ) : ∃ (v : Int32) (χ1 : St) (σ1 : St), f_X11_cares χ a1 = some (v, χ1) ∧ f_X12_cares σ a1 = some (v, σ1) ∧ Rel_ χ1 σ1 := by
  obtain ⟨B, T, m, C, h⟩ := h
  have h0 := h.th
  unfold f_X11_cares f_X12_cares
  generalize sF σ 300 0 (0 : Int32) = σ0 at h0 ⊢
  rcases os_ca h0.W h0.b h0.r a1 with ⟨e1, e2⟩ | ⟨o, ho, rfl, e1, e2⟩
  · rw [bi_nd e1, bi_nd e2]
    exact ⟨_, _, _, rfl, rfl, h0.rel⟩
  rw [bi_nd e1, bi_nd e2, c1_0, c1_0, gd_t h.L.i1]
  obtain ⟨V, χ1, σ1, e3, e4, h1⟩ := rl_vo h0 ho
  rw [bi_nd e3, bi_nd e4]
  dsimp only
  rw [bi_nd (x9_s0 χ1), bi_nd (bc_bi V (n := 16) (by omega)), bi_nd (bc_bi V (n := 16) (by omega))]
  obtain ⟨χ2, σ2, e5, e6, h2⟩ := rl_ad (rl_st h1) (by omega) (nI (cn V 16)).toInt64
  rw [bi_nd e5, bi_nd e6]
  have hb := bi_31 V (n := 16) (by omega)
  generalize bi V 16 = b at hb ⊢
  by_cases hz : b = 0
  · subst hz
    rw [if_pos (show nI 0 = 0 from rfl), if_pos (show nI 0 = 0 from rfl)]
    exact ⟨_, _, _, rfl, rfl, h2.rel⟩
  have hnz : ¬ nI b = 0 := fun e => hz ((nI_eq (b := 0) (by omega) (by omega)).mp e)
  rw [if_neg hnz, if_neg hnz]
  obtain ⟨k, q, hk, hq⟩ := lo_ex 16 b (by omega) hb
  obtain ⟨K, hK, k1, k2⟩ := hi_ex 16 b (by omega) hb
  have l1 : f_X10_leastIn (nI b) = some (nI k) := by rw [hq]; exact le_in hk (by rw [← hq]; exact hb)
  have l2 : f_J6_numberOfTrailingZeros_0f7a4 (nI b) = some (nI k) := by rw [hq]; exact tz_n hk (by rw [← hq]; exact hb)
  rw [bi_nd l1, bi_nd l2]
  obtain ⟨χ3, σ3, e7, e8, h3⟩ := rl_ad h2 (by omega) (nI k).toInt64
  rw [bi_nd e7, bi_nd e8, bi_nd (gr_in hK k1 k2 hb), bi_nd (lz_n hK k1 k2 hb), show (31 : Int32) = nI 31 from rfl, pk_sub (by omega), show 31 - (31 - K) = K by omega]
  obtain ⟨χ4, σ4, e9, e10, h4⟩ := rl_ad h3 (by omega) (nI K).toInt64
  rw [bi_nd e9, bi_nd e10]
  exact ⟨_, _, _, rfl, rfl, h4.rel⟩
