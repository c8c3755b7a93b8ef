/-! LAYER 2: chances: sound, slips. -/
theorem x1_ra {t k : Nat} (hk : k < 4000) : f_X1_raised (nI t) (nI k) = some ((fun n => Nat.rec (lN 1) (fun _ x => x * (nI t).toInt64) n : Nat → Int64) k) := by
  unfold f_X1_raised
  refine bi_nd (it_for (fun j => ((Nat.rec (lN 1) (fun _ x => x * (nI t).toInt64) j : Int64), nI j)) k (by omega) rfl (fun j hj => ?_) ?_)
  · show f_X1_raised_s5 (nI t) (nI k) _ (nI j) = _
    unfold f_X1_raised_s5
    simp (disch := omega) only [li_1, c_leF, nI_add]
  · show f_X1_raised_s5 (nI t) (nI k) _ (nI k) = _
    unfold f_X1_raised_s5
    simp (disch := omega) only [c_leT]
theorem x1_pw {t : Nat} (ht : t < 2 ^ 31) : ∀ k, (Nat.rec (lN 1) (fun _ x => x * (nI t).toInt64) k : Int64) = lN (t ^ k) := by
  intro k
  induction k with
  | zero => rfl
  | succ k ih =>
    show (Nat.rec (lN 1) (fun _ x => x * (nI t).toInt64) k : Int64) * (nI t).toInt64 = _
    rw [ih, nI_to ht, lN_mul, Nat.pow_succ]
theorem x1_rp {t k : Nat} (ht : t < 2 ^ 31) (hk : k < 4000) : f_X1_raised (nI t) (nI k) = some (lN (t ^ k)) := (x1_ra hk).trans (congrArg some (x1_pw ht k))
theorem x1_rm {t m k : Nat} (ht : t < 2 ^ 31) (hm : m < 4000) (hk : k < 4000) : f_X1_raised (nI t) (nI m - nI k) = some (lN (t ^ (m - k))) := by
  by_cases h : k ≤ m
  · rw [pk_sub h, x1_rp ht (by omega)]
  · rw [show m - k = 0 by omega]
    unfold f_X1_raised
    refine bi_nd (it_for (fun _ => ((1 : Int64), (0 : Int32))) 0 (by omega) rfl (fun j hj => absurd hj (Nat.not_lt_zero _)) ?_)
    show f_X1_raised_s5 (nI t) (nI m - nI k) 1 0 = _
    unfold f_X1_raised_s5
    rw [if_pos (show nI m - nI k ≤ (0 : Int32) from (df_le (by omega) (by omega)).mpr (by omega))]
    rfl
theorem x1_jt {t m k : Nat} (ht : t ≤ 10) (hm : m ≤ 8) (hk : k ≤ 8) : f_X1_justThese (nI t) (nI m) (nI k) = some (lN (t ^ k * (10 - t) ^ (m - k))) := by
  unfold f_X1_justThese
  rw [show (10 : Int32) = nI 10 from rfl, pk_sub ht, bi_nd (x1_rp (by omega) (by omega)), bi_nd (x1_rm (by omega) (by omega) (by omega)), lN_mul]
theorem te_ca (a : Int32) : (f_X11_isTenths a = some 0 ∧ f_X12_in a.toInt64 (lN 0) (lN 10) = some 0) ∨ ∃ j, j ≤ 10 ∧ a = nI j ∧ f_X11_isTenths a = some 1 ∧ f_X12_in a.toInt64 (lN 0) (lN 10) = some 1 := by
  unfold f_X11_isTenths
  rcases in_ca a 0 10 (by omega) (by omega) with ⟨q1, q2⟩ | ⟨j, -, hj, rfl, q1⟩
  · refine Or.inl ⟨?_, q1⟩
    by_cases hz : a < 0
    · rw [if_pos hz]
    · rw [if_neg hz, if_pos (show (10 : Int32) < a from q2.resolve_left hz)]
  · refine Or.inr ⟨j, hj, rfl, ?_, q1⟩
    rw [if_neg (nI_pos (by omega)), if_neg (show ¬ (10 : Int32) < nI j from nI_nlt (a := 10) hj (by omega))]
/-- the products of sound, i factors in -/
def gp_ (a b k i : Nat) : Nat := a * (b ^ (min i k) * (10 - b) ^ (i - k))
theorem gp_s {a b k i : Nat} : gp_ a b k (i + 1) = gp_ a b k i * (if i < k then b else 10 - b) := by
  unfold gp_
  by_cases h : i < k
  · rw [if_pos h, Nat.min_eq_left (show i + 1 ≤ k by omega), Nat.min_eq_left (show i ≤ k by omega), show i + 1 - k = 0 by omega, show i - k = 0 by omega, Nat.pow_succ, Nat.pow_zero, Nat.mul_one, Nat.mul_one, Nat.mul_assoc]
  · rw [if_neg h, Nat.min_eq_right (show k ≤ i + 1 by omega), Nat.min_eq_right (show k ≤ i by omega), show i + 1 - k = (i - k) + 1 by omega, Nat.pow_succ]
    simp only [Nat.mul_assoc]
theorem gp_0 {a b k : Nat} : gp_ a b k 0 = a := by
  unfold gp_
  rw [Nat.min_eq_left (Nat.zero_le _), Nat.zero_sub, Nat.pow_zero, Nat.pow_zero, Nat.mul_one]
theorem pw_le {b k n : Nat} (hb : b ≤ 10) (hk : k ≤ n) (hn : n ≤ 8) : b ^ k * (10 - b) ^ (n - k) ≤ 100000000 := by
  have h1 : b ^ k ≤ 10 ^ k := Nat.pow_le_pow_left hb k
  have h2 : (10 - b) ^ (n - k) ≤ 10 ^ (n - k) := Nat.pow_le_pow_left (by omega) _
  have h3 := Nat.mul_le_mul h1 h2
  rw [← Nat.pow_add, show k + (n - k) = n by omega] at h3
  exact Nat.le_trans h3 (Nat.le_trans (Nat.pow_le_pow_right (by omega) hn) (by decide))
theorem y_43 (χ σ : St) (a1 a2 a3 a4 a5 : Int32) (h : Rel_ χ σ) : ∃ (v : Int32) (χ1 : St) (σ1 : St), f_X11_sound χ a1 a2 a3 a4 a5 = some (v, χ1) ∧ f_X12_sound σ a1 a2 a3 a4 a5 = some (v, σ1) ∧ Rel_ χ1 σ1 := by
  obtain ⟨B, T, m, C, h⟩ := h
  have h0 := h.th
  unfold f_X11_sound f_X12_sound
  generalize sF σ 300 0 (0 : Int32) = σ0 at h0 ⊢
  simp only [lj_0, lj_10, lj_8]
  rcases te_ca a1 with ⟨q1, q2⟩ | ⟨a, ha, rfl, q1, q2⟩
  · simp only [q1, q2, ob_s, c0_0]
    exact ⟨_, _, _, rfl, rfl, h0.rel⟩
  simp only [q1, q2, ob_s, c1_0]
  rcases te_ca a2 with ⟨q3, q4⟩ | ⟨b, hb, rfl, q3, q4⟩
  · simp only [q3, q4, ob_s, c0_0]
    exact ⟨_, _, _, rfl, rfl, h0.rel⟩
  simp only [q3, q4, ob_s, c1_0]
  rcases te_ca a3 with ⟨q5, q6⟩ | ⟨c, hc, rfl, q5, q6⟩
  · simp only [q5, q6, ob_s, c0_0]
    exact ⟨_, _, _, rfl, rfl, h0.rel⟩
  simp only [q5, q6, ob_s, c1_0]
  rcases in_ca a4 0 8 (by omega) (by omega) with ⟨q7, q8⟩ | ⟨n, -, hn, rfl, q7⟩
  · simp only [q7, ob_s, c0_0]
    refine ⟨-1, χ, σ0, ?_, rfl, h0.rel⟩
    by_cases hz : a4 < 0
    · rw [if_pos hz]
    · rw [if_neg hz, if_pos (show (8 : Int32) < a4 from q8.resolve_left hz)]
  simp only [q7, ob_s, c1_0]
  rw [if_neg (nI_pos (by omega)), if_neg (show ¬ (8 : Int32) < nI n from nI_nlt (a := 8) hn (by omega)), nI_to (show n < 2 ^ 31 by omega)]
  rcases in_ca a5 0 n (by omega) (by omega) with ⟨q8, q9⟩ | ⟨k, -, hk, rfl, q8⟩
  · simp only [q8, ob_s, c0_0]
    refine ⟨-1, χ, σ0, ?_, rfl, h0.rel⟩
    by_cases hz : a5 < 0
    · rw [if_pos hz]
    · rw [if_neg hz, if_neg (lt_le (q9.resolve_left hz))]
  simp only [q8, ob_s, c1_0]
  have e2 : iter (fun z : Int64 × Int64 × Int32 => f_X12_sound_s83 σ0 (nI b) (nI c) (nI n) (nI k) z.1 z.2.1 z.2.2) FU ((nI a).toInt64, ((10 : Int32) - nI a).toInt64, (0 : Int32)) = some (lN (gp_ a b k n), lN (gp_ (10 - a) c k n)) := by
    refine it_for (fun i => (lN (gp_ a b k i), lN (gp_ (10 - a) c k i), nI i)) n (by omega) ?_ (fun i hi => ?_) ?_
    · show (lN (gp_ a b k 0), lN (gp_ (10 - a) c k 0), nI 0) = _
      rw [gp_0, gp_0, show (10 : Int32) = nI 10 from rfl, pk_sub ha, nI_to (by omega), nI_to (by omega)]
      rfl
    · show f_X12_sound_s83 σ0 (nI b) (nI c) (nI n) (nI k) (lN (gp_ a b k i)) (lN (gp_ (10 - a) c k i)) (nI i) = _
      unfold f_X12_sound_s83 f_X12_sound_j109_83 f_X12_sound_j131_83
      rw [gp_s, gp_s]
      by_cases q : i < k
      · simp (disch := omega) only [li_1, li_10, c_leF, pk_sub, nI_to, lN_mul, nI_add, if_pos q]
      · simp (disch := omega) only [li_1, li_10, c_leF, c_leT, pk_sub, nI_to, lN_mul, nI_add, if_neg q]
    · show f_X12_sound_s83 σ0 (nI b) (nI c) (nI n) (nI k) (lN (gp_ a b k n)) (lN (gp_ (10 - a) c k n)) (nI n) = _
      unfold f_X12_sound_s83
      simp (disch := omega) only [c_leT]
  have p1 := pw_le hb hk hn
  have p2 := pw_le hc hk hn
  have g1 : gp_ a b k n = a * (b ^ k * (10 - b) ^ (n - k)) := by unfold gp_; rw [Nat.min_eq_right hk]
  have g2 : gp_ (10 - a) c k n = (10 - a) * (c ^ k * (10 - c) ^ (n - k)) := by unfold gp_; rw [Nat.min_eq_right hk]
  have b1 : gp_ a b k n ≤ 10 * 100000000 := by rw [g1]; exact Nat.mul_le_mul ha p1
  have b2 : gp_ (10 - a) c k n ≤ 10 * 100000000 := by rw [g2]; exact Nat.mul_le_mul (by omega) p2
  rw [if_neg (show ¬ nI k < 0 from nI_pos (by omega)), if_pos (nI_le hk (by omega)), bi_nd (x1_jt hb (by omega) (by omega)), bi_nd (x1_jt hc (by omega) (by omega)), bi_nd e2, show (10 : Int32) = nI 10 from rfl, pk_sub ha, nI_to (by omega), nI_to (by omega), lN_mul, lN_mul, lN_add, lN_add, ← g1, ← g2]
  try dsimp only
  generalize gp_ a b k n = u1 at b1 ⊢
  generalize gp_ (10 - a) c k n = u2 at b2 ⊢
  by_cases hz : u1 + u2 = 0
  · rw [if_pos (show lg_cmp (lN (u1 + u2)) (lN 0) = 0 from lg_0T hz), if_pos (show lg_cmp (lN (u1 + u2)) (lN 0) = 0 from lg_0T hz)]
    exact ⟨_, _, _, rfl, rfl, h0.rel⟩
  · rw [if_neg (show ¬ lg_cmp (lN (u1 + u2)) (lN 0) = 0 from lg_0F hz (by omega)), if_neg (show ¬ lg_cmp (lN (u1 + u2)) (lN 0) = 0 from lg_0F hz (by omega))]
    obtain ⟨χ3, σ3, e3, e4, h3⟩ := rl_fr h0 (a := u1) (b := u1 + u2) (by omega) (by omega) (by omega)
    simp only [x9_s0, ob_s, e3, e4]
    exact ⟨_, _, _, rfl, rfl, h3.rel⟩
/-- how many sets of k out of m -/
def ch_ : Nat → Nat → Nat
  | _, 0 => 1
  | 0, _ + 1 => 0
  | m + 1, k + 1 => ch_ m k + ch_ m (k + 1)
theorem ch_ok : ∀ m, m < 9 → ∀ k, k < 9 → f_X1_setsOf (nI k) (nI m) = some (lN (ch_ m k)) := by decide +kernel
theorem ch_0 : ∀ m k, m < k → ch_ m k = 0 := by
  intro m
  induction m with
  | zero => intro k h; cases k with
    | zero => omega
    | succ k => rfl
  | succ m ih => intro k h; cases k with
    | zero => omega
    | succ k =>
      show ch_ m k + ch_ m (k + 1) = 0
      rw [ih k (by omega), ih (k + 1) (by omega)]
def js_ (t m k : Nat) : Nat := ch_ m k * (t ^ k * (10 - t) ^ (m - k))
theorem x1_js {t m k : Nat} (ht : t ≤ 10) (hm : m ≤ 8) (hk : k ≤ 8) : f_X1_justSoMany (nI t) (nI m) (nI k) = some (lN (js_ t m k)) := by
  unfold f_X1_justSoMany
  rw [bi_nd (ch_ok m (by omega) k (by omega)), bi_nd (x1_jt ht hm hk), lN_mul]
  rfl
theorem js_s {t m k : Nat} : js_ t (m + 1) k = js_ t m k * (10 - t) + (if k = 0 then 0 else js_ t m (k - 1)) * t := by
  unfold js_
  cases k with
  | zero =>
    show 1 * (t ^ 0 * (10 - t) ^ (m + 1 - 0)) = ch_ m 0 * (t ^ 0 * (10 - t) ^ (m - 0)) * (10 - t) + (if (0 : Nat) = 0 then 0 else _) * t
    rw [if_pos rfl, Nat.zero_mul, Nat.add_zero, show ch_ m 0 = 1 by cases m <;> rfl, Nat.pow_zero, Nat.one_mul, Nat.one_mul, Nat.one_mul, Nat.one_mul, Nat.sub_zero, Nat.sub_zero, Nat.pow_succ]
    rfl
  | succ k =>
    rw [if_neg (by omega), show k + 1 - 1 = k by omega, show ch_ (m + 1) (k + 1) = ch_ m k + ch_ m (k + 1) from rfl, show m + 1 - (k + 1) = m - k by omega, Nat.add_mul, Nat.add_comm]
    congr 1
    · by_cases h : k + 1 ≤ m
      · rw [show m - k = (m - (k + 1)) + 1 by omega, Nat.pow_succ (10 - t)]
        simp only [Nat.mul_assoc]
      · rw [ch_0 m (k + 1) (by omega), Nat.zero_mul, Nat.zero_mul, Nat.zero_mul]
    · rw [Nat.pow_succ]
      simp only [Nat.mul_assoc, Nat.mul_comm, Nat.mul_left_comm]
theorem su_0s (f : Nat → Nat) (n : Nat) : su f (n + 1) = f 0 + su (fun j => f (j + 1)) n := by
  induction n with
  | zero => rw [su_s, su_0, su_0]; omega
  | succ n ih => rw [su_s, ih, su_s (fun j => f (j + 1))]; omega
theorem su_ad (f g : Nat → Nat) (c d n : Nat) : su (fun j => f j * c + g j * d) n = su f n * c + su g n * d := by
  induction n with
  | zero => rw [su_0, su_0, su_0, Nat.zero_mul, Nat.zero_mul]
  | succ n ih => rw [su_s, su_s, su_s, ih, Nat.add_mul, Nat.add_mul]; omega
/-- just i close, of a that would (each by q tenths) and b that would not (each by p) -/
def pj_ (q p a b i : Nat) : Nat := su (fun j => js_ q a j * js_ p b (i - j)) (i + 1)
theorem pj_a {q p a b i : Nat} : pj_ q p (a + 1) b i = pj_ q p a b i * (10 - q) + (if i = 0 then 0 else pj_ q p a b (i - 1)) * q := by
  unfold pj_
  have e1 : su (fun j => js_ q (a + 1) j * js_ p b (i - j)) (i + 1) = su (fun j => (js_ q a j * js_ p b (i - j)) * (10 - q) + ((if j = 0 then 0 else js_ q a (j - 1)) * js_ p b (i - j)) * q) (i + 1) := su_ex (fun j hj => by
    rw [js_s, Nat.add_mul, Nat.mul_right_comm, Nat.mul_right_comm (if j = 0 then 0 else js_ q a (j - 1))])
  rw [e1, su_ad]
  congr 2
  rw [su_0s, if_pos rfl, Nat.zero_mul, Nat.zero_add]
  cases i with
  | zero => rfl
  | succ i =>
    rw [if_neg (by omega)]
    refine su_ex (fun j hj => ?_)
    rw [if_neg (by omega), show j + 1 - 1 = j by omega, show i + 1 - (j + 1) = i + 1 - 1 - j by omega]
theorem pj_b {q p a b i : Nat} : pj_ q p a (b + 1) i = pj_ q p a b i * (10 - p) + (if i = 0 then 0 else pj_ q p a b (i - 1)) * p := by
  unfold pj_
  have e1 : su (fun j => js_ q a j * js_ p (b + 1) (i - j)) (i + 1) = su (fun j => (js_ q a j * js_ p b (i - j)) * (10 - p) + (js_ q a j * (if i - j = 0 then 0 else js_ p b (i - j - 1))) * p) (i + 1) := su_ex (fun j hj => by
    rw [js_s, Nat.mul_add, ← Nat.mul_assoc, ← Nat.mul_assoc])
  rw [e1, su_ad]
  congr 2
  rw [su_s, Nat.sub_self, if_pos rfl, Nat.mul_zero, Nat.add_zero]
  cases i with
  | zero => rfl
  | succ i =>
    rw [if_neg (by omega)]
    refine su_ex (fun j hj => ?_)
    rw [if_neg (by omega), show i + 1 - j - 1 = i + 1 - 1 - j by omega]
theorem pj_0 {q p i : Nat} : pj_ q p 0 0 i = if i = 0 then 1 else 0 := by
  unfold pj_
  have hj : ∀ t k, js_ t 0 k = if k = 0 then 1 else 0 := by
    intro t k
    unfold js_
    cases k with
    | zero => rfl
    | succ k => rw [if_neg (by omega), show ch_ 0 (k + 1) = 0 from rfl, Nat.zero_mul]
  have e : su (fun j => js_ q 0 j * js_ p 0 (i - j)) (i + 1) = su (fun j => if i = 0 then 1 else 0) 1 + su (fun _ => 0) i := by
    rw [su_0s]
    congr 1
    · rw [su_s, su_0, hj, hj, if_pos rfl, Nat.sub_zero]; omega
    · exact su_ex (fun j _ => by rw [hj, if_neg (by omega), Nat.zero_mul])
  have z : ∀ n, su (fun _ => 0) n = 0 := by
    intro n
    induction n with
    | zero => rfl
    | succ n ih => rw [su_s, ih]
  rw [e, z, su_s, su_0]; omega
