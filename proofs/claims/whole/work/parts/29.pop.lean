/-! LAYER 2: sets as bits; how many bits. -/
/-- sets as bits; how many; sums -/
def bi (p : Nat → Bool) : Nat → Nat
  | 0 => 0
  | k + 1 => bi p k ||| (if p k = true then 2 ^ k else 0)
def cn (p : Nat → Bool) : Nat → Nat
  | 0 => 0
  | k + 1 => cn p k + (if p k = true then 1 else 0)
def su (f : Nat → Nat) : Nat → Nat
  | 0 => 0
  | k + 1 => su f k + f k
theorem bi_s (p : Nat → Bool) (k : Nat) : bi p (k + 1) = bi p k ||| (if p k = true then 2 ^ k else 0) := rfl
theorem cn_s (p : Nat → Bool) (k : Nat) : cn p (k + 1) = cn p k + (if p k = true then 1 else 0) := rfl
theorem su_s (p : Nat → Nat) (k : Nat) : su p (k + 1) = su p k + p k := rfl
theorem bi_0 (p : Nat → Bool) : bi p 0 = 0 := rfl
theorem cn_0 (p : Nat → Bool) : cn p 0 = 0 := rfl
theorem su_0 (p : Nat → Nat) : su p 0 = 0 := rfl
theorem bi_lt (p : Nat → Bool) (n : Nat) : bi p n < 2 ^ n := by
  induction n with
  | zero => exact Nat.one_pos
  | succ n ih =>
    rw [bi_s]
    have h2 : 2 ^ n < 2 ^ (n + 1) := Nat.pow_lt_pow_right (by omega) (by omega)
    refine Nat.or_lt_two_pow (by omega) ?_
    split
    · exact h2
    · exact Nat.two_pow_pos _
theorem bi_tb (p : Nat → Bool) (n i : Nat) : (bi p n).testBit i = (decide (i < n) && p i) := by
  induction n with
  | zero => rw [bi_0]; simp
  | succ n ih =>
    rw [bi_s, Nat.testBit_or, ih]
    by_cases hin : i = n
    · subst hin
      by_cases hp : p i = true
      · simp [hp]
      · simp [hp]
    · have h1 : decide (i < n + 1) = decide (i < n) := by
        apply decide_eq_decide.mpr; omega
      rw [h1]
      by_cases hp : p n = true
      · rw [if_pos hp, Nat.testBit_two_pow_of_ne (by omega)]; simp
      · rw [if_neg hp]; simp
theorem bi_ex {p q : Nat → Bool} {n : Nat} (h : ∀ i, i < n → p i = q i) : bi p n = bi q n := by
  induction n with
  | zero => rfl
  | succ n ih =>
    rw [bi_s, bi_s, ih (fun i hi => h i (by omega)), h n (by omega)]
theorem cn_ex {p q : Nat → Bool} {n : Nat} (h : ∀ i, i < n → p i = q i) : cn p n = cn q n := by
  induction n with
  | zero => rfl
  | succ n ih =>
    rw [cn_s, cn_s, ih (fun i hi => h i (by omega)), h n (by omega)]
theorem su_ex {p q : Nat → Nat} {n : Nat} (h : ∀ i, i < n → p i = q i) : su p n = su q n := by
  induction n with
  | zero => rfl
  | succ n ih =>
    rw [su_s, su_s, ih (fun i hi => h i (by omega)), h n (by omega)]
theorem cn_le (p : Nat → Bool) (n : Nat) : cn p n ≤ n := by
  induction n with
  | zero => exact Nat.le_refl _
  | succ n ih => rw [cn_s]; split <;> omega
theorem su_le (f : Nat → Nat) (b n : Nat) (h : ∀ i, i < n → f i ≤ b) : su f n ≤ b * n := by
  induction n with
  | zero => exact Nat.le_refl _
  | succ n ih =>
    rw [su_s]
    have h1 := ih (fun i hi => h i (by omega))
    have h2 := h n (by omega)
    rw [Nat.mul_succ]; omega
theorem bi_and (p q : Nat → Bool) (n : Nat) : bi p n &&& bi q n = bi (fun i => p i && q i) n := by
  apply Nat.eq_of_testBit_eq
  intro i
  rw [Nat.testBit_and, bi_tb, bi_tb, bi_tb]
  cases decide (i < n) <;> cases p i <;> cases q i <;> rfl
theorem bi_n1 (n : Nat) : 2 ^ n - 1 = bi (fun _ => true) n := by
  apply Nat.eq_of_testBit_eq
  intro i
  rw [Nat.testBit_two_pow_sub_one, bi_tb]
  simp
theorem bi_of {a n : Nat} (h : a < 2 ^ n) : a = bi a.testBit n := by
  apply Nat.eq_of_testBit_eq
  intro i
  rw [bi_tb]
  by_cases hi : i < n
  · simp [hi]
  · rw [Nat.testBit_lt_two_pow (Nat.lt_of_lt_of_le h (Nat.pow_le_pow_right (by omega) (by omega)))]
    simp [hi]
theorem bi_nt {a b : Nat} (ha : a < 2 ^ 31) (hb : b < 2 ^ 31) : nI a &&& (nI b ^^^ (-nI 1)) = nI (bi (fun i => a.testBit i && !b.testBit i) 31) := by
  apply Int32.toBitVec_inj.1
  show BitVec.ofNat 32 a &&& (BitVec.ofNat 32 b ^^^ (-1 : Int32).toBitVec) = BitVec.ofNat 32 _
  rw [show (-1 : Int32).toBitVec = BitVec.allOnes 32 from rfl]
  apply BitVec.eq_of_getLsbD_eq
  intro i hi
  rw [BitVec.getLsbD_and, BitVec.getLsbD_xor, BitVec.getLsbD_allOnes, BitVec.getLsbD_ofNat, BitVec.getLsbD_ofNat, BitVec.getLsbD_ofNat, bi_tb]
  by_cases h31 : i < 31
  · simp [hi, h31]
  · rw [Nat.testBit_lt_two_pow (Nat.lt_of_lt_of_le ha (Nat.pow_le_pow_right (by omega) (by omega)))]
    simp
theorem bi_ntn (p q : Nat → Bool) {n m : Nat} (hn : n ≤ 31) (hm : m ≤ 31) : nI (bi p n) &&& (nI (bi q m) ^^^ (-nI 1)) = nI (bi (fun i => p i && !(decide (i < m) && q i)) n) := by
  rw [bi_nt (Nat.lt_of_lt_of_le (bi_lt p n) (Nat.pow_le_pow_right (by omega) hn)) (Nat.lt_of_lt_of_le (bi_lt q m) (Nat.pow_le_pow_right (by omega) hm))]
  congr 1
  apply Nat.eq_of_testBit_eq
  intro i
  rw [bi_tb, bi_tb, bi_tb, bi_tb]
  by_cases h : i < n
  · simp [h, show i < 31 by omega]
  · simp [h]
/-- bits of a set -/
def pop_ (a : Nat) : Nat := cn a.testBit 16
theorem cn_cut (p : Nat → Bool) (n : Nat) : ∀ m, n ≤ m → cn (fun i => decide (i < n) && p i) m = cn p n := by
  intro m
  induction m with
  | zero => intro h; have : n = 0 := by omega
            subst this; rfl
  | succ m ih =>
    intro h
    by_cases hm : n = m + 1
    · subst hm
      exact cn_ex (fun i hi => by simp [hi])
    · rw [cn_s, ih (by omega)]
      have : ¬ m < n := by omega
      simp [this]
theorem pop_bi (p : Nat → Bool) {n : Nat} (h : n ≤ 16) : pop_ (bi p n) = cn p n := by
  unfold pop_
  rw [cn_ex (fun i _ => bi_tb p n i)]
  exact cn_cut p n 16 h
theorem pop_le (a : Nat) : pop_ a ≤ 16 := cn_le _ _
/-- JDK's bitCount, on 16 bits -/
def sv {α : Type} (x : Nat) (f : Nat → α) : α := Nat.rec (f 0) (fun n _ => f (n + 1)) x
theorem sv_e {α : Type} (x : Nat) (f : Nat → α) : sv x f = f x := by cases x <;> rfl
def al_ (p : Nat → Bool) : Nat → Bool
  | 0 => true
  | n + 1 => p n && al_ p n
theorem al_s {p : Nat → Bool} {n : Nat} (h : al_ p n = true) : ∀ k, k < n → p k = true := by
  induction n with
  | zero => intro k hk; omega
  | succ n ih =>
    rw [show al_ p (n + 1) = (p n && al_ p n) from rfl, Bool.and_eq_true] at h
    intro k hk
    by_cases e : k = n
    · rw [e]; exact h.1
    · exact ih h.2 k (by omega)
def po (a : Nat) : Nat :=
  sv (a - ((a >>> 1) &&& 1431655765)) fun x1 => sv ((x1 &&& 858993459) + ((x1 >>> 2) &&& 858993459)) fun x2 => sv ((x2 + (x2 >>> 4)) &&& 252645135) fun x3 => sv (x3 + (x3 >>> 8)) fun x4 => sv (x4 + (x4 >>> 16)) fun x5 => x5 &&& 63
def pk_c (c : Nat) : Bool := al_ (fun h => al_ (fun l => Nat.beq (po (4096 * c + (256 * h + l))) (cn (4096 * c + (256 * h + l)).testBit 16)) 256) 16
theorem pk_c0 : pk_c 0 = true := by decide +kernel
theorem pk_c1 : pk_c 1 = true := by decide +kernel
theorem pk_c2 : pk_c 2 = true := by decide +kernel
theorem pk_c3 : pk_c 3 = true := by decide +kernel
theorem pk_c4 : pk_c 4 = true := by decide +kernel
theorem pk_c5 : pk_c 5 = true := by decide +kernel
theorem pk_c6 : pk_c 6 = true := by decide +kernel
theorem pk_c7 : pk_c 7 = true := by decide +kernel
theorem pk_c8 : pk_c 8 = true := by decide +kernel
theorem pk_c9 : pk_c 9 = true := by decide +kernel
theorem pk_c10 : pk_c 10 = true := by decide +kernel
theorem pk_c11 : pk_c 11 = true := by decide +kernel
theorem pk_c12 : pk_c 12 = true := by decide +kernel
theorem pk_c13 : pk_c 13 = true := by decide +kernel
theorem pk_c14 : pk_c 14 = true := by decide +kernel
theorem pk_c15 : pk_c 15 = true := by decide +kernel
theorem pk_ca {c : Nat} (h : c < 16) : pk_c c = true := by
  have hc : c = 0 ∨ c = 1 ∨ c = 2 ∨ c = 3 ∨ c = 4 ∨ c = 5 ∨ c = 6 ∨ c = 7 ∨ c = 8 ∨ c = 9 ∨ c = 10 ∨ c = 11 ∨ c = 12 ∨ c = 13 ∨ c = 14 ∨ c = 15 := by omega
  rcases hc with rfl | rfl | rfl | rfl | rfl | rfl | rfl | rfl | rfl | rfl | rfl | rfl | rfl | rfl | rfl | rfl
  · exact pk_c0
  · exact pk_c1
  · exact pk_c2
  · exact pk_c3
  · exact pk_c4
  · exact pk_c5
  · exact pk_c6
  · exact pk_c7
  · exact pk_c8
  · exact pk_c9
  · exact pk_c10
  · exact pk_c11
  · exact pk_c12
  · exact pk_c13
  · exact pk_c14
  · exact pk_c15
theorem po_ok {a : Nat} (h : a < 65536) : po a = pop_ a := by
  have h1 := al_s (al_s (pk_ca (c := a / 4096) (by omega)) (a / 256 % 16) (by omega)) (a % 256) (by omega)
  rw [show 4096 * (a / 4096) + (256 * (a / 256 % 16) + a % 256) = a by omega] at h1
  exact Nat.eq_of_beq_eq_true h1
