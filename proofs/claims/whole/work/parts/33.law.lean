/-! LAYER 2: what a rule tells of an oyster; which close. -/
def wk_ (a : Nat) (x y : Int32) : Int32 := if a = 0 then (if y ≤ x then nI 0 else nI 1) else if a = 1 then (if x ≤ y then nI 0 else nI 1) else if a = 2 then (if x = y then nI 1 else nI 0) else if a = 3 then x + y else if a = 4 then x - y else if a = 5 then x * y else if y = nI 0 then nI 0 else x / y
/-- the things of an oyster and a question -/
def ee (B : Bd_) (o y w : Nat) : Nat → Int32
  | 0 => nI (B.2.1 1 o)
  | 1 => nI y
  | 2 => nI (B.2.1 0 o)
  | 3 => nI w
  | 4 => nI (cn (lP_ B o) B.1)
  | 5 => nI (B.2.1 4 o)
  | _ => B.2.2.1 - B.2.2.1 / nI 7 * nI 7
/-- the stack behind k signs -/
def es (c : Nat → Nat) (e : Nat → Int32) : Nat → Nat → Int32
  | 0 => fun _ => 0
  | k + 1 => if c k = 3000 then upd (es c e k) (dp c k - 1) (-(es c e k (dp c k - 1))) else if c k < 2000 then upd (es c e k) (dp c k) (if c k < 1000 then nI (c k) else e (c k - 1000)) else upd (es c e k) (dp c k - 1 - 1) (wk_ (c k - 2000) (es c e k (dp c k - 1 - 1)) (es c e k (dp c k - 1)))
def vl (C : Lw) (e : Nat → Int32) : Int32 := es C.2 e C.1 0
def clP (B : Bd_) (C : Lw) (t w k : Nat) : Bool := oP_ B 0 k && !decide (vl C (ee B k (yP_ B t k).toNat w) ≤ 0)
theorem dp_le (c : Nat → Nat) (k : Nat) : dp c k ≤ k := by
  induction k with
  | zero => exact Nat.le_refl _
  | succ k ih =>
    rw [show dp c (k + 1) = if c k = 3000 then dp c k else if c k < 2000 then dp c k + 1 else dp c k - 1 from rfl]
    split
    · omega
    · split <;> omega
theorem st_up {s : St} {p j n m : Nat} {x : Int32} {f : Nat → Int32} (h : ∀ i, i < n → cA s p i = f i) (hm : ∀ i, i < m → i = j ∨ i < n) : ∀ i, i < m → cA (sA s p j x) p i = upd f j x i := by
  intro i hi
  by_cases e : i = j
  · subst e; rw [rAs, pk_us]
  · rw [rAj e, pk_un e]
    exact h i ((hm i hi).resolve_left e)
def SV (w : Nat) (χ χ' : St) : Prop := cF χ' = cF χ ∧ cL χ' = cL χ ∧ cW χ' = cW χ ∧ ∀ p, p ≠ w → cA χ' p = cA χ p
theorem SV.rf (w : Nat) (χ : St) : SV w χ χ := ⟨rfl, rfl, rfl, fun _ _ => rfl⟩
theorem SV.tr {w : Nat} {a b c : St} (h : SV w a b) (k : SV w b c) : SV w a c := ⟨k.1.trans h.1, k.2.1.trans h.2.1, k.2.2.1.trans h.2.2.1, fun p hp => (k.2.2.2 p hp).trans (h.2.2.2 p hp)⟩
theorem SV.sA {w i : Nat} {χ s : St} {x : Int32} (h : SV w χ s) : SV w χ (sA s w i x) := ⟨h.1, h.2.1, h.2.2.1, fun p hp => (rAp hp).trans (h.2.2.2 p hp)⟩
theorem x0_ha {b o : Nat} {B : Bd_} {χ : St} (W : WB B) (h : BC_ b B χ) (ho : o < B.1) : f_X0_has χ b (nI o) = some (nI 1) := by
  have h8 := W.1
  unfold f_X0_has
  simp (disch := omega) only [h.n, li_0, li_1, c_ltF, c_leF]
theorem x5_le {b o y w j : Nat} {B : Bd_} {χ : St} (W : WB B) (h : BC_ b B χ) (ho : o < B.1) (hj : j < 7) : f_X5_letter χ (nI (en_ (1000 + j) - 1000)) b (nI o) (nI y) (nI w) = some (ee B o y w j) := by
  have h8 := W.1
  have hc : j = 0 ∨ j = 1 ∨ j = 2 ∨ j = 3 ∨ j = 4 ∨ j = 5 ∨ j = 6 := by omega
  unfold f_X5_letter
  rcases hc with rfl | rfl | rfl | rfl | rfl | rfl | rfl
  · simp (disch := omega) only [show en_ (1000 + 0) - 1000 = 102 from rfl, x0_ha W h ho, Option.bind_some, li_0, li_1, li_97, li_98, li_99, li_100, li_102, li_107, li_110, li_112, li_118, li_119, c_eqF, c_eqT, if_true, gd_n, nI_clamp, h.k1 ho]
    all_goals rfl
  · simp (disch := omega) only [show en_ (1000 + 1) - 1000 = 118 from rfl, x0_ha W h ho, Option.bind_some, li_0, li_1, li_97, li_98, li_99, li_100, li_102, li_107, li_110, li_112, li_118, li_119, c_eqF, c_eqT, if_true, gd_n, nI_clamp]
    all_goals rfl
  · simp (disch := omega) only [show en_ (1000 + 2) - 1000 = 107 from rfl, x0_ha W h ho, Option.bind_some, li_0, li_1, li_97, li_98, li_99, li_100, li_102, li_107, li_110, li_112, li_118, li_119, c_eqF, c_eqT, if_true, gd_n, nI_clamp, h.k0 ho]
    all_goals rfl
  · simp (disch := omega) only [show en_ (1000 + 3) - 1000 = 119 from rfl, x0_ha W h ho, Option.bind_some, li_0, li_1, li_97, li_98, li_99, li_100, li_102, li_107, li_110, li_112, li_118, li_119, c_eqF, c_eqT, if_true, gd_n, nI_clamp]
    all_goals rfl
  · simp (disch := omega) only [show en_ (1000 + 4) - 1000 = 99 from rfl, x0_ha W h ho, Option.bind_some, li_0, li_1, li_97, li_98, li_99, li_100, c_eqF, c_eqT, if_true, x0_li W h ho]
    all_goals rfl
  · simp (disch := omega) only [show en_ (1000 + 5) - 1000 = 112 from rfl, x0_ha W h ho, Option.bind_some, li_0, li_1, li_97, li_98, li_99, li_100, li_102, li_107, li_110, li_112, li_118, li_119, c_eqF, c_eqT, if_true, gd_n, nI_clamp, h.k4 ho]
    all_goals rfl
  · simp (disch := omega) only [show en_ (1000 + 6) - 1000 = 110 from rfl, x0_ha W h ho, Option.bind_some, li_0, li_1, li_7, li_97, li_98, li_99, li_100, li_102, li_107, li_110, li_112, li_118, li_119, c_eqF, c_eqT, if_true, h.2.1]
    all_goals rfl
theorem x12_wk {a : Nat} (ha : a < 7) (x y : Int32) : f_X12_worked (nI a) x y = some (wk_ a x y) := by
  have hc : a = 0 ∨ a = 1 ∨ a = 2 ∨ a = 3 ∨ a = 4 ∨ a = 5 ∨ a = 6 := by omega
  unfold f_X12_worked f_X12_worked_j50 f_X12_worked_j64 f_X12_worked_j78 f_X12_flag wk_
  rcases hc with rfl | rfl | rfl | rfl | rfl | rfl | rfl
  · simp (disch := omega) only [li_0, li_1, li_2, li_3, li_4, li_5, c_eqF, c_eqT, if_true, Option.bind_some, if_true]
    by_cases h : y ≤ x
    · simp [h, nI]
    · simp [h, nI]
  · simp (disch := omega) only [li_0, li_1, li_2, li_3, li_4, li_5, c_eqF, c_eqT, if_true, Option.bind_some, if_true]
    by_cases h : x ≤ y
    · simp [h, nI]
    · simp [h, nI]
  · simp (disch := omega) only [li_0, li_1, li_2, li_3, li_4, li_5, c_eqF, c_eqT, if_true, Option.bind_some, if_true]
    by_cases h : x = y
    · simp [h, nI]
    · simp [h, nI]
  · simp (disch := omega) only [li_0, li_1, li_2, li_3, li_4, li_5, c_eqF, c_eqT, if_true]
    all_goals rfl
  · simp (disch := omega) only [li_0, li_1, li_2, li_3, li_4, li_5, c_eqF, c_eqT, if_true]
    all_goals rfl
  · simp (disch := omega) only [li_0, li_1, li_2, li_3, li_4, li_5, c_eqF, c_eqT, if_true]
    all_goals rfl
  · simp (disch := omega) only [li_0, li_1, li_2, li_3, li_4, li_5, c_eqF, c_eqT, if_true]
    by_cases h : y = nI 0
    · rw [if_pos h]; simp [h]
    · rw [if_neg h, gd_t (by unfold nz; rw [decide_eq_false (show ¬ y = 0 from h)]; rfl)]
      simp [h]
theorem x5_jo {a : Nat} (ha : a < 7) (x y : Int32) : f_X5_joined (nI (en_ (2000 + a) - 1000)) x y = some (wk_ a x y) := by
  have hc : a = 0 ∨ a = 1 ∨ a = 2 ∨ a = 3 ∨ a = 4 ∨ a = 5 ∨ a = 6 := by omega
  unfold f_X5_joined wk_
  rcases hc with rfl | rfl | rfl | rfl | rfl | rfl | rfl
  · simp (disch := omega) only [show en_ (2000 + 0) - 1000 = 60 from rfl, li_42, li_61, li_62, li_0, li_1, li_43, li_45, li_47, li_60, c_eqF, c_eqT, if_true]
    all_goals rfl
  · simp (disch := omega) only [show en_ (2000 + 1) - 1000 = 62 from rfl, li_42, li_61, li_62, li_0, li_1, li_43, li_45, li_47, li_60, c_eqF, c_eqT, if_true]
    all_goals rfl
  · simp (disch := omega) only [show en_ (2000 + 2) - 1000 = 61 from rfl, li_42, li_61, li_62, li_0, li_1, li_43, li_45, li_47, li_60, c_eqF, c_eqT, if_true]
    all_goals rfl
  · simp (disch := omega) only [show en_ (2000 + 3) - 1000 = 43 from rfl, li_42, li_61, li_62, li_0, li_1, li_43, li_45, li_47, li_60, c_eqF, c_eqT, if_true]
    all_goals rfl
  · simp (disch := omega) only [show en_ (2000 + 4) - 1000 = 45 from rfl, li_42, li_61, li_62, li_0, li_1, li_43, li_45, li_47, li_60, c_eqF, c_eqT, if_true]
    all_goals rfl
  · simp (disch := omega) only [show en_ (2000 + 5) - 1000 = 42 from rfl, li_42, li_61, li_62, li_0, li_1, li_43, li_45, li_47, li_60, c_eqF, c_eqT, if_true]
    all_goals rfl
  · simp (disch := omega) only [show en_ (2000 + 6) - 1000 = 47 from rfl, li_42, li_61, li_62, li_0, li_1, li_43, li_45, li_47, li_60, c_eqF, c_eqT, if_true]
    by_cases h : y = nI 0
    · rw [if_pos h]; simp [h]
    · rw [if_neg h, gd_t (by unfold nz; rw [decide_eq_false (show ¬ y = 0 from h)]; rfl)]
      simp [h]
theorem nu_lt {c : Nat} (h : c < 1000) : nI c - nI 1000 < nI 0 ∧ ¬ nI c - nI 1000 = nI 256 := by
  have e : (nI c - nI 1000).toInt = (c : Int) - 1000 := pk_sub_toInt (by omega) (by omega)
  refine ⟨?_, fun q => ?_⟩
  · rw [Int32.lt_iff_toInt_lt, e, nI_toInt (by omega)]; omega
  · rw [q, nI_toInt (by omega)] at e; omega
theorem en_lo {c : Nat} (h : c < 1000) : en_ c = c := by unfold en_; rw [if_pos h]
theorem en_le {c : Nat} (h : 1000 ≤ c) (h2 : c < 1007) : 1097 ≤ en_ c ∧ en_ c < 1120 := by
  have hc : c = 1000 ∨ c = 1001 ∨ c = 1002 ∨ c = 1003 ∨ c = 1004 ∨ c = 1005 ∨ c = 1006 := by omega
  rcases hc with rfl | rfl | rfl | rfl | rfl | rfl | rfl <;> decide
theorem en_op {c : Nat} (h : 2000 ≤ c) (h2 : c < 2007) : 1000 ≤ en_ c ∧ en_ c < 1097 := by
  have hc : c = 2000 ∨ c = 2001 ∨ c = 2002 ∨ c = 2003 ∨ c = 2004 ∨ c = 2005 ∨ c = 2006 := by omega
  rcases hc with rfl | rfl | rfl | rfl | rfl | rfl | rfl <;> decide
/-- one sign, in the class -/
theorem x5_st {w b o y wd : Nat} {B : Bd_} {C : Lw} {χ : St} (hw : w < 22) (hb : 27 ≤ b) (W : WB B) (h : BC_ b B χ) (hC : WC C) (hL : LC_ w C χ) (ho : o < B.1) {k : Nat} (hk : k < C.1) {s : St} (hs : SV (w + 4) χ s) (hst : ∀ i, i < dp C.2 k → cA s (w + 4) i = es C.2 (ee B o y wd) k i) :
    ∃ s', f_X5_value_s6 w b s (nI o) (nI y) (nI wd) (nI (dp C.2 k)) (nI k) = some (.inl (nI (dp C.2 (k + 1)), nI (k + 1), s')) ∧ SV (w + 4) χ s' ∧ ∀ i, i < dp C.2 (k + 1) → cA s' (w + 4) i = es C.2 (ee B o y wd) (k + 1) i := by
  have h8 := W.1
  have hB : BC_ b B s := h.cg (by rw [hs.1]) (fun j h1 h2 => hs.2.2.2 _ (by omega))
  have hl : cF s w 1 = nI C.1 := by rw [hs.1]; exact hL.1
  have hc : cA s (w + 1) k = nI (en_ (C.2 k)) := by rw [hs.2.2.2 _ (by omega)]; exact hL.2 k hk
  have h40 := hC.1
  have hd := dp_le C.2 k
  have hok := hC.2.2 k hk
  rw [show dp C.2 (k + 1) = if C.2 k = 3000 then dp C.2 k else if C.2 k < 2000 then dp C.2 k + 1 else dp C.2 k - 1 from rfl]
  rw [show es C.2 (ee B o y wd) (k + 1) = if C.2 k = 3000 then upd (es C.2 (ee B o y wd) k) (dp C.2 k - 1) (-(es C.2 (ee B o y wd) k (dp C.2 k - 1))) else if C.2 k < 2000 then upd (es C.2 (ee B o y wd) k) (dp C.2 k) (if C.2 k < 1000 then nI (C.2 k) else ee B o y wd (C.2 k - 1000)) else upd (es C.2 (ee B o y wd) k) (dp C.2 k - 1 - 1) (wk_ (C.2 k - 2000) (es C.2 (ee B o y wd) k (dp C.2 k - 1 - 1)) (es C.2 (ee B o y wd) k (dp C.2 k - 1))) from rfl]
  generalize es C.2 (ee B o y wd) k = f at hst ⊢
  generalize dp C.2 k = d at hst hd hok ⊢
  generalize C.2 k = c at hc hok ⊢
  unfold f_X5_value_s6 f_X5_value_j78_6 f_X5_value_j118_6 f_X5_value_j166_6
  simp (disch := omega) only [hl, hc, li_0, li_1, li_2, li_40, li_97, li_256, li_1000, c_leF, gd_n, nI_clamp]
  rcases hok with h1 | ⟨h1, h2⟩ | ⟨h1, h2, h3⟩ | ⟨h1, h2⟩
  · obtain ⟨e1, e2⟩ := nu_lt h1
    rw [en_lo h1, if_neg e2, if_pos e1]
    simp (disch := omega) only [c_ltT, if_neg (lt_le e1), gd_n, nI_clamp, nI_add, if_neg (show ¬ c = 3000 by omega), if_pos (show c < 2000 by omega), if_pos h1, hc, en_lo h1]
    exact ⟨_, rfl, hs.sA, st_up hst (fun i hi => by omega)⟩
  · obtain ⟨e1, e2⟩ := en_le h1 h2
    have e3 := x5_le (y := y) (w := wd) W hB ho (j := c - 1000) (by omega)
    rw [show 1000 + (c - 1000) = c by omega] at e3
    simp (disch := omega) only [pk_sub, c_eqF, c_ltF, c_ltT, c_leT, e3, Option.bind_some, gd_n, nI_clamp, nI_add, if_neg (show ¬ c = 3000 by omega), if_pos (show c < 2000 by omega), if_neg (show ¬ c < 1000 by omega)]
    exact ⟨_, rfl, hs.sA, st_up hst (fun i hi => by omega)⟩
  · obtain ⟨e1, e2⟩ := en_op h1 h2
    have e3 := fun x y => x5_jo (a := c - 2000) (by omega) x y
    rw [show 2000 + (c - 2000) = c by omega] at e3
    simp (disch := omega) only [pk_sub, c_eqF, c_ltF, c_ltT, c_leT, ad_m1, e3, hst, Option.bind_some, gd_n, nI_clamp, nI_add, if_neg (show ¬ c = 3000 by omega), if_neg (show ¬ c < 2000 by omega)]
    exact ⟨_, rfl, hs.sA, st_up hst (fun i hi => by omega)⟩
  · subst h1
    simp (disch := omega) only [show en_ 3000 = 1256 from rfl, pk_sub, c_eqT, if_true, c_leT, hst, gd_n, nI_clamp, nI_add, if_true]
    exact ⟨_, rfl, hs.sA, st_up hst (fun i hi => by omega)⟩
theorem x5_va {w b o y wd : Nat} {B : Bd_} {C : Lw} {χ : St} (hw : w < 22) (hb : 27 ≤ b) (W : WB B) (h : BC_ b B χ) (hC : WC C) (hL : LC_ w C χ) (ho : o < B.1) : ∃ s, f_X5_value χ w b (nI o) (nI y) (nI wd) = some (vl C (ee B o y wd), s) ∧ SV (w + 4) χ s := by
  have h40 := hC.1
  obtain ⟨x, e, hx⟩ := it_inv (step := fun z : Int32 × Int32 × St => f_X5_value_s6 w b z.2.2 (nI o) (nI y) (nI wd) z.1 z.2.1) (s := ((0 : Int32), (0 : Int32), χ))
    (fun k z => z.1 = nI (dp C.2 k) ∧ z.2.1 = nI k ∧ SV (w + 4) χ z.2.2 ∧ ∀ i, i < dp C.2 k → cA z.2.2 (w + 4) i = es C.2 (ee B o y wd) k i)
    (fun x => ∃ s, x = .inr (nI 1, s) ∧ SV (w + 4) χ s ∧ cA s (w + 4) 0 = vl C (ee B o y wd)) C.1 (by omega) ⟨rfl, rfl, SV.rf _ _, fun i hi => absurd hi (Nat.not_lt_zero _)⟩
    (fun k z hk hI => by
      obtain ⟨z1, z2, z3⟩ := z
      obtain ⟨rfl, rfl, h3, h4⟩ := hI
      obtain ⟨s', e, h5, h6⟩ := x5_st hw hb W h hC hL ho hk h3 h4
      exact ⟨_, e, rfl, rfl, h5, h6⟩)
    (fun z hI => by
      obtain ⟨z1, z2, z3⟩ := z
      obtain ⟨rfl, rfl, h3, h4⟩ := hI
      have hl : cF z3 w 1 = nI C.1 := by rw [h3.1]; exact hL.1
      rw [hC.2.1] at h4
      refine ⟨.inr (nI 1, z3), ?_, z3, rfl, h3, h4 0 (by omega)⟩
      show f_X5_value_s6 w b z3 (nI o) (nI y) (nI wd) (nI (dp C.2 C.1)) (nI C.1) = _
      unfold f_X5_value_s6
      simp (disch := omega) only [hl, c_leT, hC.2.1])
  obtain ⟨s, rfl, h1, h2⟩ := hx
  refine ⟨s, ?_, h1⟩
  unfold f_X5_value
  rw [bi_nd e]
  show (if nI 1 = (1 : Int32) then gd (inb (0 : Int32) 40) (some ((cA s (w + 4) (0 : Int32).toNatClampNeg), s)) else some ((0 : Int32), s)) = _
  simp (disch := omega) only [li_0, li_1, c_eqT, if_true, gd_n, nI_clamp, h2]
/-- which close, in the class -/
theorem x0_cl {w b t wd : Nat} {B : Bd_} {C : Lw} {χ : St} (hw : w < 22) (hb : 27 ≤ b) (W : WB B) (h : BC_ b B χ) (hC : WC C) (hL : LC_ w C χ) (ht : t < 4) : ∃ s, f_X0_closing χ b w (nI t) (nI wd) = some (nI (bi (clP B C t wd) B.1), s) ∧ SV (w + 4) χ s := by
  have h8 := W.1
  obtain ⟨x, e, hx⟩ := it_inv (step := fun z : Int32 × Int32 × St => f_X0_closing_s6 b w z.2.2 (nI t) (nI wd) z.1 z.2.1) (s := ((0 : Int32), (0 : Int32), χ))
    (fun k z => z.1 = nI (bi (clP B C t wd) k) ∧ z.2.1 = nI k ∧ SV (w + 4) χ z.2.2)
    (fun x => x.1 = nI (bi (clP B C t wd) B.1) ∧ SV (w + 4) χ x.2) B.1 (by omega) ⟨rfl, rfl, SV.rf _ _⟩
    (fun k z hk hI => by
      obtain ⟨z1, z2, s⟩ := z
      obtain ⟨rfl, rfl, hs⟩ := hI
      dsimp only at hs
      have hB : BC_ b B s := h.cg (by rw [hs.1]) (fun j h1 h2 => hs.2.2.2 _ (by omega))
      have hLs : LC_ w C s := hL.cg (by rw [hs.1]) (hs.2.2.2 _ (by omega))
      have b2 := W.b2 hk
      have b3 := W.b3 hk
      show ∃ s', f_X0_closing_s6 b w s (nI t) (nI wd) (nI (bi (clP B C t wd) k)) (nI k) = some (.inl s') ∧ _
      unfold f_X0_closing_s6 f_X0_closing_j56_6
      simp (disch := omega) only [hB.n, hB.k3 hk, hB.k2 hk, li_0, li_1, c_leF, gd_n, nI_clamp, nI_add, ha_n, sh_1]
      by_cases h0 : B.2.1 3 k = 0
      · obtain ⟨s', e, hs'⟩ := x5_va (y := ((B.2.1 2 k).testBit t).toNat) (wd := wd) hw hb W hB hC hLs hk
        simp (disch := omega) only [c_eqT, if_true, e, Option.bind_some]
        by_cases hv : vl C (ee B k ((B.2.1 2 k).testBit t).toNat wd) ≤ nI 0
        · have hp : ¬ clP B C t wd k = true := by
            unfold clP yP_
            rw [decide_eq_true (show vl C (ee B k ((B.2.1 2 k).testBit t).toNat wd) ≤ 0 from hv)]
            simp
          rw [if_pos hv]
          exact ⟨_, rfl, bi_F hp, rfl, hs.tr hs'⟩
        · have hp : clP B C t wd k = true := by
            unfold clP yP_ oP_
            rw [decide_eq_false (show ¬ vl C (ee B k ((B.2.1 2 k).testBit t).toNat wd) ≤ 0 from hv), h0]
            rfl
          rw [if_neg hv]
          exact ⟨_, rfl, bi_T hp, rfl, hs.tr hs'⟩
      · have hp : ¬ clP B C t wd k = true := by
          unfold clP oP_
          rw [decide_eq_false (show ¬ B.2.1 3 k ≤ 0 by omega)]
          simp
        simp (disch := omega) only [c_eqF]
        exact ⟨_, rfl, bi_F hp, rfl, hs⟩)
    (fun z hI => by
      obtain ⟨z1, z2, s⟩ := z
      obtain ⟨rfl, rfl, hs⟩ := hI
      dsimp only at hs
      have hn : cF s b 5 = nI B.1 := by rw [hs.1]; exact h.n
      refine ⟨(nI (bi (clP B C t wd) B.1), s), ?_, rfl, hs⟩
      show f_X0_closing_s6 b w s (nI t) (nI wd) (nI (bi (clP B C t wd) B.1)) (nI B.1) = _
      unfold f_X0_closing_s6
      simp (disch := omega) only [hn, c_leT])
  obtain ⟨x1, x2⟩ := x
  obtain ⟨rfl, h2⟩ := hx
  refine ⟨x2, ?_, h2⟩
  unfold f_X0_closing
  exact bi_nd e
set_option maxRecDepth 100000 in
theorem es_d0 (e : Nat → Int32) : vl d0_ e = e 1 * nI 9 - e 0 + e 3 := rfl
theorem x12_st {e : Nat → Int32} {C : Lw} {σ : St} (hC : WC C) (hl : cF σ 300 17 = nI C.1) (hcs : ∀ i, i < C.1 → cA σ 315 i = nI (C.2 i)) (he : ∀ i, i < 7 → cA σ 320 i = e i) {k : Nat} (hk : k < C.1) {s : St} (hs : SV 319 σ s) (hst : ∀ i, i < dp C.2 k → cA s 319 i = es C.2 e k i) :
    ∃ s', f_X12_ruled_s4 s (nI (dp C.2 k)) (nI k) = some (.inl (nI (dp C.2 (k + 1)), nI (k + 1), s')) ∧ SV 319 σ s' ∧ ∀ i, i < dp C.2 (k + 1) → cA s' 319 i = es C.2 e (k + 1) i := by
  have hl2 : cF s 300 17 = nI C.1 := by rw [hs.1]; exact hl
  have hc : cA s 315 k = nI (C.2 k) := by rw [hs.2.2.2 _ (by omega)]; exact hcs k hk
  have h40 := hC.1
  have hd := dp_le C.2 k
  have hok := hC.2.2 k hk
  rw [show dp C.2 (k + 1) = if C.2 k = 3000 then dp C.2 k else if C.2 k < 2000 then dp C.2 k + 1 else dp C.2 k - 1 from rfl]
  rw [show es C.2 e (k + 1) = if C.2 k = 3000 then upd (es C.2 e k) (dp C.2 k - 1) (-(es C.2 e k (dp C.2 k - 1))) else if C.2 k < 2000 then upd (es C.2 e k) (dp C.2 k) (if C.2 k < 1000 then nI (C.2 k) else e (C.2 k - 1000)) else upd (es C.2 e k) (dp C.2 k - 1 - 1) (wk_ (C.2 k - 2000) (es C.2 e k (dp C.2 k - 1 - 1)) (es C.2 e k (dp C.2 k - 1))) from rfl]
  generalize es C.2 e k = f at hst ⊢
  generalize dp C.2 k = d at hst hd hok ⊢
  generalize C.2 k = c at hc hok ⊢
  have hcl : c < 3001 := by rcases hok with h | h | h | h <;> omega
  unfold f_X12_ruled_s4 f_X12_ruled_j115_4 f_X12_ruled_j119_4
  simp (disch := omega) only [hl2, hc, li_1, li_1000, li_2000, li_3000, c_leF, gd_n, nI_clamp]
  rcases hok with h1 | ⟨h1, h2⟩ | ⟨h1, h2, h3⟩ | ⟨h1, h2⟩
  · simp (disch := omega) only [c_eqF, c_ltT, gd_n, nI_clamp, nI_add, if_neg (show ¬ c = 3000 by omega), if_pos (show c < 2000 by omega), if_pos h1]
    exact ⟨_, rfl, hs.sA, st_up hst (fun i hi => by omega)⟩
  · have e3 : cA s 320 (c - 1000) = e (c - 1000) := by rw [hs.2.2.2 _ (by omega)]; exact he _ (by omega)
    simp (disch := omega) only [c_eqF, c_ltT, c_ltF, pk_sub, e3, gd_n, nI_clamp, nI_add, if_neg (show ¬ c = 3000 by omega), if_pos (show c < 2000 by omega), if_neg (show ¬ c < 1000 by omega)]
    exact ⟨_, rfl, hs.sA, st_up hst (fun i hi => by omega)⟩
  · simp (disch := omega) only [c_eqF, c_ltF, pk_sub, ad_m1, x12_wk, hst, Option.bind_some, gd_n, nI_clamp, nI_add, if_neg (show ¬ c = 3000 by omega), if_neg (show ¬ c < 2000 by omega)]
    exact ⟨_, rfl, hs.sA, st_up hst (fun i hi => by omega)⟩
  · subst h1
    simp (disch := omega) only [c_eqT, if_true, pk_sub, hst, gd_n, nI_clamp, nI_add, if_true]
    exact ⟨_, rfl, hs.sA, st_up hst (fun i hi => by omega)⟩
theorem x12_ru {e : Nat → Int32} {C : Lw} {σ : St} (hC : WC C) (hL : LR_ C σ) (he : ∀ i, i < 7 → cA σ 320 i = e i) : ∃ s, f_X12_ruled σ = some (vl C e, s) ∧ SV 319 σ s := by
  have h40 := hC.1
  have hpos : 0 < C.1 := by
    rcases Nat.eq_zero_or_pos C.1 with h | h
    · have := hC.2.1; rw [h] at this; exact absurd (show 0 = 1 from this) (by decide)
    · exact h
  rcases hL with ⟨h1, h2⟩ | ⟨hl, hcs⟩
  · refine ⟨σ, ?_, SV.rf _ _⟩
    unfold f_X12_ruled
    have e1 : iter (fun z : Int32 × Int32 × St => f_X12_ruled_s4 z.2.2 z.1 z.2.1) FU ((0 : Int32), (0 : Int32), σ) = some σ := by
      refine it_for (fun _ => ((0 : Int32), (0 : Int32), σ)) 0 (by omega) rfl (fun k hk => absurd hk (Nat.not_lt_zero _)) ?_
      show f_X12_ruled_s4 σ 0 0 = _
      unfold f_X12_ruled_s4
      rw [h1, if_pos (by decide)]
    rw [bi_nd e1, h1, h2, es_d0]
    simp (disch := omega) only [li_0, li_1, li_3, li_9, gd_n, nI_clamp, he, if_true]
  · obtain ⟨x, e1, hx⟩ := it_inv (step := fun z : Int32 × Int32 × St => f_X12_ruled_s4 z.2.2 z.1 z.2.1) (s := ((0 : Int32), (0 : Int32), σ))
      (fun k z => z.1 = nI (dp C.2 k) ∧ z.2.1 = nI k ∧ SV 319 σ z.2.2 ∧ ∀ i, i < dp C.2 k → cA z.2.2 319 i = es C.2 e k i)
      (fun x => SV 319 σ x ∧ cA x 319 0 = vl C e) C.1 (by omega) ⟨rfl, rfl, SV.rf _ _, fun i hi => absurd hi (Nat.not_lt_zero _)⟩
      (fun k z hk hI => by
        obtain ⟨z1, z2, z3⟩ := z
        obtain ⟨rfl, rfl, h3, h4⟩ := hI
        obtain ⟨s', e, h5, h6⟩ := x12_st hC hl hcs he hk h3 h4
        exact ⟨_, e, rfl, rfl, h5, h6⟩)
      (fun z hI => by
        obtain ⟨z1, z2, z3⟩ := z
        obtain ⟨rfl, rfl, h3, h4⟩ := hI
        have hl2 : cF z3 300 17 = nI C.1 := by rw [h3.1]; exact hl
        rw [hC.2.1] at h4
        refine ⟨z3, ?_, h3, h4 0 (by omega)⟩
        show f_X12_ruled_s4 z3 (nI (dp C.2 C.1)) (nI C.1) = _
        unfold f_X12_ruled_s4
        simp (disch := omega) only [hl2, c_leT])
    refine ⟨x, ?_, hx.1⟩
    unfold f_X12_ruled
    rw [bi_nd e1, hx.1.1, hl]
    simp (disch := omega) only [li_0, c_eqF, gd_n, nI_clamp, hx.2]
/-- scratch of the reference's closing -/
def SE_ (σ σ' : St) : Prop := cF σ' = cF σ ∧ cL σ' = cL σ ∧ cW σ' = cW σ ∧ ∀ p, p ≠ 319 → p ≠ 320 → cA σ' p = cA σ p
theorem SE_.rf (σ : St) : SE_ σ σ := ⟨rfl, rfl, rfl, fun _ _ _ => rfl⟩
theorem SE_.tr {a b c : St} (h : SE_ a b) (k : SE_ b c) : SE_ a c := ⟨k.1.trans h.1, k.2.1.trans h.2.1, k.2.2.1.trans h.2.2.1, fun p hp hq => (k.2.2.2 p hp hq).trans (h.2.2.2 p hp hq)⟩
theorem SE_.sA {i : Nat} {χ s : St} {x : Int32} (h : SE_ χ s) : SE_ χ (sA s 320 i x) := ⟨h.1, h.2.1, h.2.2.1, fun p hp hq => (rAp hq).trans (h.2.2.2 p hp hq)⟩
theorem SE_.sV {a b c : St} (h : SE_ a b) (k : SV 319 b c) : SE_ a c := ⟨k.1.trans h.1, k.2.1.trans h.2.1, k.2.2.1.trans h.2.2.1, fun p hp hq => (k.2.2.2 p hp).trans (h.2.2.2 p hp hq)⟩
def sE (σ : St) (e : Nat → Int32) : St := sA (sA (sA (sA (sA (sA (sA σ 320 0 (e 0)) 320 1 (e 1)) 320 2 (e 2)) 320 3 (e 3)) 320 4 (e 4)) 320 5 (e 5)) 320 6 (e 6)
theorem sE_r {σ : St} {e : Nat → Int32} : ∀ i, i < 7 → cA (sE σ e) 320 i = e i := by
  intro i hi
  have hc : i = 0 ∨ i = 1 ∨ i = 2 ∨ i = 3 ∨ i = 4 ∨ i = 5 ∨ i = 6 := by omega
  unfold sE
  rcases hc with rfl | rfl | rfl | rfl | rfl | rfl | rfl <;> simp (disch := omega) only [rAs, rAj]
theorem sE_e {σ s : St} {e : Nat → Int32} (h : SE_ σ s) : SE_ σ (sE s e) := h.sA.sA.sA.sA.sA.sA.sA
theorem bi_x1 (p : Nat → Bool) {n k : Nat} (hn : n ≤ 16) (hk : k < 16) : nI (bi p n) &&& (nI (2 ^ k) ^^^ -nI 1) = nI (bi (fun i => p i && !decide (i = k)) n) := by
  have hk2 : 2 ^ k < 2 ^ 31 := Nat.pow_lt_pow_right (by omega) (by omega)
  have hb := bi_31 p hn
  rw [bi_nt (by omega) hk2]
  congr 1
  apply Nat.eq_of_testBit_eq
  intro i
  rw [bi_tb, bi_tb, bi_tb, Nat.testBit_two_pow]
  by_cases h : i < n
  · by_cases e : i = k
    · subst e; simp
    · simp [h, e, Ne.symm e, show i < 31 by omega]
  · simp [h]
theorem ki_sA {σ : St} {p i : Nat} {x : Int32} (h : p ≠ 305) : f_X12_kinOf (sA σ p i x) = f_X12_kinOf σ := by
  funext a
  unfold f_X12_kinOf
  have e : ∀ y u v, f_X12_kinOf_s4 (sA σ p i x) y u v = f_X12_kinOf_s4 σ y u v := by
    intro y u v
    unfold f_X12_kinOf_s4 f_X12_kinOf_j30_4
    rw [rFA, rAp (Ne.symm h)]
  simp only [e]
theorem x12_cs {r t wd : Nat} {B : Bd_} {C : Lw} {σ : St} (hr : r ≠ 319 ∧ r ≠ 320) (W : WB B) (h : BR r 0 B σ) (hC : WC C) (hL : LR_ C σ) (ht : t < 4) {k : Nat} (hk : k < B.1) {s : St} (hs : SE_ σ s) :
    ∃ s', f_X12_closing_s13 r s (nI t) (nI wd) (nI (bi (oP_ B 0) B.1)) (nI (bi (clP B C t wd) k)) (nI k) = some (.inl (nI (bi (clP B C t wd) (k + 1)), nI (k + 1), s')) ∧ SE_ σ s' := by
  have h8 := W.1
  have hB : BR r 0 B s := h.cg (by rw [hs.1]) (hs.2.2.2 _ (by omega) (by omega)) (hs.2.2.2 _ hr.1 hr.2)
  have hLs : LR_ C s := hL.cg (by rw [hs.1]) (hs.2.2.2 _ (by omega) (by omega))
  have b2 := W.b2 hk
  have b3 := W.b3 hk
  have b0 := W.b0 hk
  have hr2 := hr.2
  have hbo := bi_31 (oP_ B 0) (n := B.1) (by omega)
  have hcn : cn (fun i => (oP_ B 0 i && kP_ B (B.2.1 0 k) i) && !decide (i = k)) B.1 = cn (lP_ B k) B.1 := cn_ex (fun i hi => by
    unfold lP_
    by_cases h : i = k
    · simp [h]
    · simp [h, Bool.and_comm])
  have htb : (bi (oP_ B 0) B.1).testBit k = oP_ B 0 k := by rw [bi_tb, decide_eq_true hk]; rfl
  unfold f_X12_closing_s13 f_X12_closing_j156_13 f_X12_flag
  simp (disch := omega) only [rFA, rAp, ki_sA, hB.n, hB.k0 hk, hB.k1 hk, hB.k2 hk, hB.k4 hk, hB.t, li_0, li_1, li_2, li_3, li_4, li_5, li_6, li_7, li_8, li_24, li_32, c_leF, gd_n, nI_clamp, nI_add, x12_ha, Option.bind_some, x12_ki W hB, nI_an, sh_1]
  rw [bi_and, bi_x1 _ (by omega) (by omega), bi_nd (bc_bi _ (by omega)), hcn, htb]
  have hy : (if nI ((B.2.1 2 k).testBit t).toNat = nI 0 then nI 0 else nI 1) = nI (yP_ B t k).toNat := by
    unfold yP_
    cases (B.2.1 2 k).testBit t <;> rfl
  rw [hy]
  by_cases ho : oP_ B 0 k = true
  · rw [ho]
    obtain ⟨s', e, hs'⟩ := x12_ru (e := ee B k (yP_ B t k).toNat wd) (σ := sE s (ee B k (yP_ B t k).toNat wd)) hC (hLs.cg rfl rfl) sE_r
    rw [show nI (true).toNat = nI 1 from rfl, c_eqF (by omega) (by omega) (by omega)]
    by_cases hv : vl C (ee B k (yP_ B t k).toNat wd) ≤ nI 0
    · have hp : ¬ clP B C t wd k = true := by
        unfold clP
        rw [decide_eq_true (show vl C (ee B k (yP_ B t k).toNat wd) ≤ 0 from hv)]
        simp
      refine ⟨s', (bi_nd e).trans ?_, (sE_e hs).sV hs'⟩
      dsimp only
      rw [if_pos hv, bi_F0 hp]
    · have hp : clP B C t wd k = true := by
        unfold clP
        rw [decide_eq_false (show ¬ vl C (ee B k (yP_ B t k).toNat wd) ≤ 0 from hv), ho]
        rfl
      refine ⟨s', (bi_nd e).trans ?_, (sE_e hs).sV hs'⟩
      dsimp only
      rw [if_neg hv, bi_T hp]
  · rw [Bool.eq_false_iff.mpr ho]
    have hp : ¬ clP B C t wd k = true := by
      unfold clP
      rw [Bool.eq_false_iff.mpr ho]
      simp
    rw [show nI (false).toNat = nI 0 from rfl, c_eqT rfl, bi_F0 hp]
    exact ⟨_, rfl, sE_e (e := ee B k (yP_ B t k).toNat wd) hs⟩
theorem x12_cl {r t wd : Nat} {B : Bd_} {C : Lw} {σ : St} (hr : r ≠ 319 ∧ r ≠ 320) (W : WB B) (h : BR r 0 B σ) (hC : WC C) (hL : LR_ C σ) (ht : t < 4) : ∃ s, f_X12_closing σ r (nI t) (nI wd) = some (nI (bi (clP B C t wd) B.1), s) ∧ SE_ σ s := by
  have h8 := W.1
  obtain ⟨x, e, hx⟩ := it_inv (step := fun z : Int32 × Int32 × St => f_X12_closing_s13 r z.2.2 (nI t) (nI wd) (nI (bi (oP_ B 0) B.1)) z.1 z.2.1) (s := ((0 : Int32), (0 : Int32), σ))
    (fun k z => z.1 = nI (bi (clP B C t wd) k) ∧ z.2.1 = nI k ∧ SE_ σ z.2.2)
    (fun x => x.1 = nI (bi (clP B C t wd) B.1) ∧ SE_ σ x.2) B.1 (by omega) ⟨rfl, rfl, SE_.rf _⟩
    (fun k z hk hI => by
      obtain ⟨z1, z2, s⟩ := z
      obtain ⟨rfl, rfl, hs⟩ := hI
      obtain ⟨s', e, hs'⟩ := x12_cs (wd := wd) hr W h hC hL ht hk hs
      exact ⟨_, e, rfl, rfl, hs'⟩)
    (fun z hI => by
      obtain ⟨z1, z2, s⟩ := z
      obtain ⟨rfl, rfl, hs⟩ := hI
      dsimp only at hs
      have hn : cF s 300 3 = nI B.1 := by rw [hs.1]; exact h.n
      refine ⟨(nI (bi (clP B C t wd) B.1), s), ?_, rfl, hs⟩
      show f_X12_closing_s13 r s (nI t) (nI wd) (nI (bi (oP_ B 0) B.1)) (nI (bi (clP B C t wd) B.1)) (nI B.1) = _
      unfold f_X12_closing_s13
      simp (disch := omega) only [hn, c_leT])
  obtain ⟨x1, x2⟩ := x
  obtain ⟨rfl, h2⟩ := hx
  refine ⟨x2, ?_, h2⟩
  unfold f_X12_closing
  rw [bi_nd (x12_op W h)]
  exact bi_nd e
