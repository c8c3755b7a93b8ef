/-! LAYER 2: plain lemmas on loops, numbers, sets as bits, cells. -/
theorem it_any {S X : Type} {step : S → Option (S ⊕ X)} (I : Nat → S → Prop) (Q : X → Prop) (N : Nat) (h : ∀ k s, k ≤ N → I k s → (k < N ∧ ∃ s', step s = some (.inl s') ∧ I (k + 1) s') ∨ ∃ x, step s = some (.inr x) ∧ Q x) : ∀ (f k : Nat) (s : S), k ≤ N → N < f + k → I k s → ∃ x, iter step f s = some x ∧ Q x := by
  intro f
  induction f with
  | zero => intro k s h1 h2; omega
  | succ f ih =>
    intro k s hk hf hI
    rcases h k s hk hI with ⟨hk2, s', e, hI'⟩ | ⟨x, e, hq⟩
    · obtain ⟨x, e2, hq⟩ := ih (k + 1) s' (by omega) (by omega) hI'
      exact ⟨x, by unfold iter; rw [e]; exact e2, hq⟩
    · exact ⟨x, by unfold iter; rw [e], hq⟩
theorem it_inv {S X : Type} {step : S → Option (S ⊕ X)} (I : Nat → S → Prop) (Q : X → Prop) (N : Nat) (hN : N < 4096) {s : S} (h0 : I 0 s) (h : ∀ k s, k < N → I k s → ∃ s', step s = some (.inl s') ∧ I (k + 1) s') (hx : ∀ s, I N s → ∃ x, step s = some (.inr x) ∧ Q x) : ∃ x, iter step FU s = some x ∧ Q x := by
  refine it_any I Q N (fun k s hk hI => ?_) FU 0 s (Nat.zero_le _) (by unfold FU; omega) h0
  rcases Nat.lt_or_ge k N with hk2 | hk2
  · exact Or.inl ⟨hk2, h k s hk2 hI⟩
  · have e : k = N := by omega
    subst e
    exact Or.inr (hx s hI)
theorem it_inx {S X : Type} {step : S → Option (S ⊕ X)} (I : Nat → S → Prop) (Q : X → Prop) (N : Nat) (hN : N < 4096) {s : S} (h0 : I 0 s) (h : ∀ k s, k ≤ N → I k s → (k < N ∧ ∃ s', step s = some (.inl s') ∧ I (k + 1) s') ∨ ∃ x, step s = some (.inr x) ∧ Q x) : ∃ x, iter step FU s = some x ∧ Q x :=
  it_any I Q N h FU 0 s (Nat.zero_le _) (by unfold FU; omega) h0
theorem it_for {S X : Type} {step : S → Option (S ⊕ X)} (g : Nat → S) (N : Nat) {x : X} (hN : N < 4096) {s : S} (h0 : g 0 = s) (h : ∀ k, k < N → step (g k) = some (.inl (g (k + 1)))) (hx : step (g N) = some (.inr x)) : iter step FU s = some x := by
  obtain ⟨y, e, hy⟩ := it_inv (fun k s => s = g k) (fun y => y = x) N hN h0.symm (fun k s hk e => ⟨g (k + 1), by rw [e]; exact h k hk, rfl⟩) (fun s e => ⟨x, by rw [e]; exact hx, rfl⟩)
  rw [e, hy]
theorem it_two {S X T Y : Type} {st1 : S → Option (S ⊕ X)} {st2 : T → Option (T ⊕ Y)} (I : Nat → S → T → Prop) (Q : X → Y → Prop) (N : Nat) (hN : N < 4096) {s : S} {t : T} (h0 : I 0 s t)
    (h : ∀ k s t, k ≤ N → I k s t → (k < N ∧ ∃ s' t', st1 s = some (.inl s') ∧ st2 t = some (.inl t') ∧ I (k + 1) s' t') ∨ ∃ x y, st1 s = some (.inr x) ∧ st2 t = some (.inr y) ∧ Q x y) : ∃ x y, iter st1 FU s = some x ∧ iter st2 FU t = some y ∧ Q x y := by
  have key : ∀ (f k : Nat) (s : S) (t : T), k ≤ N → N < f + k → I k s t → ∃ x y, iter st1 f s = some x ∧ iter st2 f t = some y ∧ Q x y := by
    intro f
    induction f with
    | zero => intro k s t h1 h2; omega
    | succ f ih =>
      intro k s t hk hf hI
      rcases h k s t hk hI with ⟨hk2, s', t', e1, e2, hI'⟩ | ⟨x, y, e1, e2, hq⟩
      · obtain ⟨x, y, e3, e4, hq⟩ := ih (k + 1) s' t' (by omega) (by omega) hI'
        exact ⟨x, y, by unfold iter; rw [e1]; exact e3, by unfold iter; rw [e2]; exact e4, hq⟩
      · exact ⟨x, y, by unfold iter; rw [e1], by unfold iter; rw [e2], hq⟩
  exact key FU 0 s t (Nat.zero_le _) (by unfold FU; omega) h0
/-- two loops of as many turns -/
theorem it_twn {S X T Y : Type} {st1 : S → Option (S ⊕ X)} {st2 : T → Option (T ⊕ Y)} (I : Nat → S → T → Prop) (Q : X → Y → Prop) (N : Nat) (hN : N < 4096) {s : S} {t : T} (h0 : I 0 s t)
    (h : ∀ k s t, k < N → I k s t → ∃ s' t', st1 s = some (.inl s') ∧ st2 t = some (.inl t') ∧ I (k + 1) s' t') (hx : ∀ s t, I N s t → ∃ x y, st1 s = some (.inr x) ∧ st2 t = some (.inr y) ∧ Q x y) : ∃ x y, iter st1 FU s = some x ∧ iter st2 FU t = some y ∧ Q x y := by
  refine it_two I Q N hN h0 (fun k s t hk hI => ?_)
  rcases Nat.lt_or_ge k N with hk2 | hk2
  · exact Or.inl ⟨hk2, h k s t hk2 hI⟩
  · have e : k = N := by omega
    subst e
    exact Or.inr (hx s t hI)
theorem bi_nd {α β : Type} {x : Option α} {f : α → Option β} {v : α} (h : x = some v) : x.bind f = f v := by rw [h]; rfl
theorem gd_n {α : Type} {k N : Nat} {x : Option α} (h : k < N) (hN : N < 2 ^ 31) : gd (inb (nI k) N) x = x := by
  unfold gd inb
  rw [if_pos]
  simp only [Bool.and_eq_true, Bool.not_eq_true', decide_eq_false_iff_not, decide_eq_true_eq]
  rw [nI_clamp (by omega)]
  exact ⟨nI_pos (by omega), h⟩
theorem gd_t {α : Type} {b : Bool} {x : Option α} (h : b = true) : gd b x = x := by unfold gd; rw [if_pos h]
theorem c_leT {α : Type} {a b : Nat} {x y : α} {d : Decidable (nI a ≤ nI b)} (h : a ≤ b) (hb : b < 2 ^ 31) : (@ite α (nI a ≤ nI b) d x y) = x := if_pos (nI_le h hb)
theorem c_leF {α : Type} {a b : Nat} {x y : α} {d : Decidable (nI a ≤ nI b)} (h : b < a) (hb : a < 2 ^ 31) : (@ite α (nI a ≤ nI b) d x y) = y := if_neg (nI_ge h hb)
theorem c_ltT {α : Type} {a b : Nat} {x y : α} {d : Decidable (nI a < nI b)} (h : a < b) (hb : b < 2 ^ 31) : (@ite α (nI a < nI b) d x y) = x := if_pos (nI_lt h hb)
theorem c_ltF {α : Type} {a b : Nat} {x y : α} {d : Decidable (nI a < nI b)} (h : b ≤ a) (hb : a < 2 ^ 31) : (@ite α (nI a < nI b) d x y) = y := if_neg (nI_nlt h hb)
theorem c_eqT {α : Type} {a b : Nat} {x y : α} {d : Decidable (nI a = nI b)} (h : a = b) : (@ite α (nI a = nI b) d x y) = x := if_pos (by rw [h])
theorem c_eqF {α : Type} {a b : Nat} {x y : α} {d : Decidable (nI a = nI b)} (h : a ≠ b) (ha : a < 2 ^ 31) (hb : b < 2 ^ 31) : (@ite α (nI a = nI b) d x y) = y := if_neg (fun e => h ((nI_eq ha hb).mp e))
theorem c_leN {α : Type} {a b : Nat} {x y : α} {d : Decidable (nI a ≤ nI b)} (ha : a < 2 ^ 31) (hb : b < 2 ^ 31) : (@ite α (nI a ≤ nI b) d x y) = if a ≤ b then x else y := by
  by_cases h : a ≤ b
  · rw [if_pos h, if_pos (nI_le h hb)]
  · rw [if_neg h, if_neg (nI_ge (by omega) ha)]
theorem c_ltN {α : Type} {a b : Nat} {x y : α} {d : Decidable (nI a < nI b)} (ha : a < 2 ^ 31) (hb : b < 2 ^ 31) : (@ite α (nI a < nI b) d x y) = if a < b then x else y := by
  by_cases h : a < b
  · rw [if_pos h, if_pos (nI_lt h hb)]
  · rw [if_neg h, if_neg (nI_nlt (by omega) ha)]
theorem c_eqN {α : Type} {a b : Nat} {x y : α} {d : Decidable (nI a = nI b)} (ha : a < 2 ^ 31) (hb : b < 2 ^ 31) : (@ite α (nI a = nI b) d x y) = if a = b then x else y := by
  by_cases h : a = b
  · rw [if_pos h, if_pos (by rw [h])]
  · rw [if_neg h, if_neg (fun e => h ((nI_eq ha hb).mp e))]
theorem nI_sI (c : Prop) (q : Decidable c) (a b : Nat) : (if c then nI a else nI b) = nI (if c then a else b) := by split <;> rfl
theorem pk_rn {a : Nat} (d : Nat) (ha : a < 2 ^ 31) (h0 : 0 < d) (hd : d < 2 ^ 31) : nI a - nI (a / d) * nI d = nI (a % d) := by
  rw [← pk_div ha h0 hd]; exact pk_rem ha h0 hd
theorem nI_mi {a b : Nat} (ha : a < 2 ^ 31) (hb : b < 2 ^ 31) : (if nI a < nI b then nI a else nI b) = nI (min a b) := by
  rw [c_ltN ha hb]
  by_cases h : a < b
  · rw [if_pos h, Nat.min_eq_left (by omega)]
  · rw [if_neg h, Nat.min_eq_right (by omega)]
theorem li_0 : (0 : Int32) = nI 0 := Int32.toInt_inj.mp rfl
theorem li_1 : (1 : Int32) = nI 1 := Int32.toInt_inj.mp rfl
theorem li_2 : (2 : Int32) = nI 2 := Int32.toInt_inj.mp rfl
theorem li_3 : (3 : Int32) = nI 3 := Int32.toInt_inj.mp rfl
theorem li_4 : (4 : Int32) = nI 4 := Int32.toInt_inj.mp rfl
theorem li_5 : (5 : Int32) = nI 5 := Int32.toInt_inj.mp rfl
theorem li_6 : (6 : Int32) = nI 6 := Int32.toInt_inj.mp rfl
theorem li_7 : (7 : Int32) = nI 7 := Int32.toInt_inj.mp rfl
theorem li_8 : (8 : Int32) = nI 8 := Int32.toInt_inj.mp rfl
theorem li_9 : (9 : Int32) = nI 9 := Int32.toInt_inj.mp rfl
theorem li_10 : (10 : Int32) = nI 10 := Int32.toInt_inj.mp rfl
theorem li_11 : (11 : Int32) = nI 11 := Int32.toInt_inj.mp rfl
theorem li_12 : (12 : Int32) = nI 12 := Int32.toInt_inj.mp rfl
theorem li_13 : (13 : Int32) = nI 13 := Int32.toInt_inj.mp rfl
theorem li_14 : (14 : Int32) = nI 14 := Int32.toInt_inj.mp rfl
theorem li_15 : (15 : Int32) = nI 15 := Int32.toInt_inj.mp rfl
theorem li_16 : (16 : Int32) = nI 16 := Int32.toInt_inj.mp rfl
theorem li_17 : (17 : Int32) = nI 17 := Int32.toInt_inj.mp rfl
theorem li_18 : (18 : Int32) = nI 18 := Int32.toInt_inj.mp rfl
theorem li_19 : (19 : Int32) = nI 19 := Int32.toInt_inj.mp rfl
theorem li_20 : (20 : Int32) = nI 20 := Int32.toInt_inj.mp rfl
theorem li_24 : (24 : Int32) = nI 24 := Int32.toInt_inj.mp rfl
theorem li_30 : (30 : Int32) = nI 30 := Int32.toInt_inj.mp rfl
theorem li_31 : (31 : Int32) = nI 31 := Int32.toInt_inj.mp rfl
theorem li_32 : (32 : Int32) = nI 32 := Int32.toInt_inj.mp rfl
theorem li_33 : (33 : Int32) = nI 33 := Int32.toInt_inj.mp rfl
theorem li_34 : (34 : Int32) = nI 34 := Int32.toInt_inj.mp rfl
theorem li_35 : (35 : Int32) = nI 35 := Int32.toInt_inj.mp rfl
theorem li_36 : (36 : Int32) = nI 36 := Int32.toInt_inj.mp rfl
theorem li_37 : (37 : Int32) = nI 37 := Int32.toInt_inj.mp rfl
theorem li_38 : (38 : Int32) = nI 38 := Int32.toInt_inj.mp rfl
theorem li_39 : (39 : Int32) = nI 39 := Int32.toInt_inj.mp rfl
theorem li_40 : (40 : Int32) = nI 40 := Int32.toInt_inj.mp rfl
theorem li_41 : (41 : Int32) = nI 41 := Int32.toInt_inj.mp rfl
theorem li_42 : (42 : Int32) = nI 42 := Int32.toInt_inj.mp rfl
theorem li_43 : (43 : Int32) = nI 43 := Int32.toInt_inj.mp rfl
theorem li_44 : (44 : Int32) = nI 44 := Int32.toInt_inj.mp rfl
theorem li_45 : (45 : Int32) = nI 45 := Int32.toInt_inj.mp rfl
theorem li_46 : (46 : Int32) = nI 46 := Int32.toInt_inj.mp rfl
theorem li_47 : (47 : Int32) = nI 47 := Int32.toInt_inj.mp rfl
theorem li_48 : (48 : Int32) = nI 48 := Int32.toInt_inj.mp rfl
theorem li_49 : (49 : Int32) = nI 49 := Int32.toInt_inj.mp rfl
theorem li_50 : (50 : Int32) = nI 50 := Int32.toInt_inj.mp rfl
theorem li_51 : (51 : Int32) = nI 51 := Int32.toInt_inj.mp rfl
theorem li_52 : (52 : Int32) = nI 52 := Int32.toInt_inj.mp rfl
theorem li_53 : (53 : Int32) = nI 53 := Int32.toInt_inj.mp rfl
theorem li_54 : (54 : Int32) = nI 54 := Int32.toInt_inj.mp rfl
theorem li_55 : (55 : Int32) = nI 55 := Int32.toInt_inj.mp rfl
theorem li_56 : (56 : Int32) = nI 56 := Int32.toInt_inj.mp rfl
theorem li_57 : (57 : Int32) = nI 57 := Int32.toInt_inj.mp rfl
theorem li_58 : (58 : Int32) = nI 58 := Int32.toInt_inj.mp rfl
theorem li_59 : (59 : Int32) = nI 59 := Int32.toInt_inj.mp rfl
theorem li_60 : (60 : Int32) = nI 60 := Int32.toInt_inj.mp rfl
theorem li_61 : (61 : Int32) = nI 61 := Int32.toInt_inj.mp rfl
theorem li_62 : (62 : Int32) = nI 62 := Int32.toInt_inj.mp rfl
theorem li_63 : (63 : Int32) = nI 63 := Int32.toInt_inj.mp rfl
theorem li_76 : (76 : Int32) = nI 76 := Int32.toInt_inj.mp rfl
theorem li_80 : (80 : Int32) = nI 80 := Int32.toInt_inj.mp rfl
theorem li_96 : (96 : Int32) = nI 96 := Int32.toInt_inj.mp rfl
theorem li_97 : (97 : Int32) = nI 97 := Int32.toInt_inj.mp rfl
theorem li_98 : (98 : Int32) = nI 98 := Int32.toInt_inj.mp rfl
theorem li_99 : (99 : Int32) = nI 99 := Int32.toInt_inj.mp rfl
theorem li_100 : (100 : Int32) = nI 100 := Int32.toInt_inj.mp rfl
theorem li_102 : (102 : Int32) = nI 102 := Int32.toInt_inj.mp rfl
theorem li_107 : (107 : Int32) = nI 107 := Int32.toInt_inj.mp rfl
theorem li_110 : (110 : Int32) = nI 110 := Int32.toInt_inj.mp rfl
theorem li_112 : (112 : Int32) = nI 112 := Int32.toInt_inj.mp rfl
theorem li_113 : (113 : Int32) = nI 113 := Int32.toInt_inj.mp rfl
theorem li_114 : (114 : Int32) = nI 114 := Int32.toInt_inj.mp rfl
theorem li_118 : (118 : Int32) = nI 118 := Int32.toInt_inj.mp rfl
theorem li_119 : (119 : Int32) = nI 119 := Int32.toInt_inj.mp rfl
theorem li_255 : (255 : Int32) = nI 255 := Int32.toInt_inj.mp rfl
theorem li_256 : (256 : Int32) = nI 256 := Int32.toInt_inj.mp rfl
theorem li_510 : (510 : Int32) = nI 510 := Int32.toInt_inj.mp rfl
theorem li_544 : (544 : Int32) = nI 544 := Int32.toInt_inj.mp rfl
theorem li_1000 : (1000 : Int32) = nI 1000 := Int32.toInt_inj.mp rfl
theorem li_2000 : (2000 : Int32) = nI 2000 := Int32.toInt_inj.mp rfl
theorem li_3000 : (3000 : Int32) = nI 3000 := Int32.toInt_inj.mp rfl
theorem li_9999 : (9999 : Int32) = nI 9999 := Int32.toInt_inj.mp rfl
theorem li_1000000 : (1000000 : Int32) = nI 1000000 := Int32.toInt_inj.mp rfl
theorem lj_0 : (0 : Int64) = lN 0 := Int64.toInt_inj.mp rfl
theorem lj_1 : (1 : Int64) = lN 1 := Int64.toInt_inj.mp rfl
theorem lj_2 : (2 : Int64) = lN 2 := Int64.toInt_inj.mp rfl
theorem lj_3 : (3 : Int64) = lN 3 := Int64.toInt_inj.mp rfl
theorem lj_4 : (4 : Int64) = lN 4 := Int64.toInt_inj.mp rfl
theorem lj_8 : (8 : Int64) = lN 8 := Int64.toInt_inj.mp rfl
theorem lj_9 : (9 : Int64) = lN 9 := Int64.toInt_inj.mp rfl
theorem lj_10 : (10 : Int64) = lN 10 := Int64.toInt_inj.mp rfl
theorem lj_15 : (15 : Int64) = lN 15 := Int64.toInt_inj.mp rfl
theorem lj_20 : (20 : Int64) = lN 20 := Int64.toInt_inj.mp rfl
theorem lj_30 : (30 : Int64) = lN 30 := Int64.toInt_inj.mp rfl
theorem lj_60 : (60 : Int64) = lN 60 := Int64.toInt_inj.mp rfl
theorem lj_99 : (99 : Int64) = lN 99 := Int64.toInt_inj.mp rfl
theorem lj_100 : (100 : Int64) = lN 100 := Int64.toInt_inj.mp rfl
theorem lj_1000000 : (1000000 : Int64) = lN 1000000 := Int64.toInt_inj.mp rfl
theorem nI_or (a b : Nat) : nI a ||| nI b = nI (a ||| b) := by
  apply Int32.toBitVec_inj.1
  show BitVec.ofNat 32 a ||| BitVec.ofNat 32 b = BitVec.ofNat 32 (a ||| b)
  apply BitVec.eq_of_getLsbD_eq
  intro i hi
  simp [hi]
theorem nI_an (a b : Nat) : nI a &&& nI b = nI (a &&& b) := by
  apply Int32.toBitVec_inj.1
  show BitVec.ofNat 32 a &&& BitVec.ofNat 32 b = BitVec.ofNat 32 (a &&& b)
  apply BitVec.eq_of_getLsbD_eq
  intro i hi
  simp [hi]
theorem nI_xo (a b : Nat) : nI a ^^^ nI b = nI (a ^^^ b) := by
  apply Int32.toBitVec_inj.1
  show BitVec.ofNat 32 a ^^^ BitVec.ofNat 32 b = BitVec.ofNat 32 (a ^^^ b)
  apply BitVec.eq_of_getLsbD_eq
  intro i hi
  simp [hi]
theorem sl_31 : ∀ n, n < 32 → ((nI n &&& 31).toBitVec.smod 32).toNat = n := by decide +kernel
theorem sh_1 : ∀ k, k < 31 → nI 1 <<< (nI k &&& 31) = nI (2 ^ k) := by decide +kernel
theorem sh_r {a k : Nat} (ha : a < 2 ^ 31) (hk : k < 32) : nI a >>> (nI k &&& 31) = nI (a / 2 ^ k) := pk_shrN ha _ k (sl_31 k hk)
theorem ha_n {a k : Nat} (ha : a < 2 ^ 31) (hk : k < 32) : (nI a >>> (nI k &&& 31)) &&& nI 1 = nI (a.testBit k).toNat := by
  rw [sh_r ha hk, nI_an, Nat.and_one_is_mod, Nat.toNat_testBit]
theorem ad_m1 {a : Nat} (h : 1 ≤ a) : nI a + -nI 1 = nI (a - 1) := by
  rw [show (-nI 1 : Int32) = -1 from rfl, ← Int32.sub_eq_add_neg, show (1 : Int32) = nI 1 from rfl, pk_sub h]
theorem us_n {a : Nat} (k : Nat) (h : a < 2 ^ 31) (hk : k < 32) : ((nI a).toUInt32 >>> ((nI k).toUInt32 &&& Int32.toUInt32 31)).toInt32 = nI (a >>> k) := by
  rw [pk_ushrN (by omega) (nI k) k ((by decide +kernel : ∀ k, k < 32 → (((nI k).toUInt32 &&& Int32.toUInt32 31).toBitVec % 32).toNat = k) k hk), Nat.shiftRight_eq_div_pow]
theorem an_le (a m : Nat) : a &&& m ≤ m := Nat.and_le_right
theorem sr_le (a k : Nat) : a >>> k ≤ a := by rw [Nat.shiftRight_eq_div_pow]; exact Nat.div_le_self _ _
theorem bc_16 {a : Nat} (h : a < 65536) : f_J6_bitCount_0f7a4 (nI a) = some (nI (pop_ a)) := by
  rw [← po_ok h]
  unfold po
  have e1 : nI a - (((nI a).toUInt32 >>> ((1 : Int32).toUInt32 &&& Int32.toUInt32 31)).toInt32 &&& (1431655765 : Int32)) = nI (a - ((a >>> 1) &&& 1431655765)) := by
    rw [show (1 : Int32) = nI 1 from rfl, us_n 1 (by omega) (by omega), show (1431655765 : Int32) = nI 1431655765 from rfl, nI_an, pk_sub]
    have h1 := sr_le a 1
    have h2 : (a >>> 1) &&& 1431655765 ≤ a >>> 1 := Nat.and_le_left
    omega
  rw [sv_e]
  generalize hx1 : a - ((a >>> 1) &&& 1431655765) = x1 at e1 ⊢
  have b1 : x1 < 2 ^ 31 := by omega
  have e2 : (nI x1 &&& (858993459 : Int32)) + (((nI x1).toUInt32 >>> ((2 : Int32).toUInt32 &&& Int32.toUInt32 31)).toInt32 &&& (858993459 : Int32)) = nI ((x1 &&& 858993459) + ((x1 >>> 2) &&& 858993459)) := by
    rw [show (2 : Int32) = nI 2 from rfl, us_n 2 b1 (by omega), show (858993459 : Int32) = nI 858993459 from rfl, nI_an, nI_an, nI_add]
  rw [sv_e]
  generalize hx2 : (x1 &&& 858993459) + ((x1 >>> 2) &&& 858993459) = x2 at e2 ⊢
  have b2 : x2 < 2 ^ 31 := by
    have h1 := an_le x1 858993459
    have h2 := an_le (x1 >>> 2) 858993459
    omega
  have e3 : (nI x2 + ((nI x2).toUInt32 >>> ((4 : Int32).toUInt32 &&& Int32.toUInt32 31)).toInt32) &&& (252645135 : Int32) = nI ((x2 + (x2 >>> 4)) &&& 252645135) := by
    rw [show (4 : Int32) = nI 4 from rfl, us_n 4 b2 (by omega), show (252645135 : Int32) = nI 252645135 from rfl, nI_add, nI_an]
  rw [sv_e]
  generalize hx3 : (x2 + (x2 >>> 4)) &&& 252645135 = x3 at e3 ⊢
  have b3 : x3 ≤ 252645135 := by rw [← hx3]; exact an_le _ _
  have e4 : nI x3 + ((nI x3).toUInt32 >>> ((8 : Int32).toUInt32 &&& Int32.toUInt32 31)).toInt32 = nI (x3 + (x3 >>> 8)) := by
    rw [show (8 : Int32) = nI 8 from rfl, us_n 8 (by omega) (by omega), nI_add]
  rw [sv_e]
  generalize hx4 : x3 + (x3 >>> 8) = x4 at e4 ⊢
  have b4 : x4 < 2 ^ 31 := by have := sr_le x3 8; omega
  have e5 : nI x4 + ((nI x4).toUInt32 >>> ((16 : Int32).toUInt32 &&& Int32.toUInt32 31)).toInt32 = nI (x4 + (x4 >>> 16)) := by
    rw [show (16 : Int32) = nI 16 from rfl, us_n 16 b4 (by omega), nI_add]
  rw [sv_e]
  unfold f_J6_bitCount_0f7a4
  rw [e1, e2, e3, e4, e5, show (63 : Int32) = nI 63 from rfl, nI_an]
theorem bc_bi (p : Nat → Bool) {n : Nat} (h : n ≤ 16) : f_J6_bitCount_0f7a4 (nI (bi p n)) = some (nI (cn p n)) := by
  rw [bc_16 (Nat.lt_of_lt_of_le (bi_lt p n) (Nat.pow_le_pow_right (by omega) h)), pop_bi p h]
/-- cells read behind a write -/
theorem rFs {χ : St} {p j : Nat} {x : Int32} : cF (sF χ p j x) p j = x := by unfold cF sF; dsimp only; rw [up2_s]; exact pk_us
theorem rFj {χ : St} {p j k : Nat} {x : Int32} (h : k ≠ j) : cF (sF χ p j x) p k = cF χ p k := by unfold cF sF; dsimp only; rw [up2_s]; exact pk_un h
theorem rFp {χ : St} {p q j : Nat} {x : Int32} (h : q ≠ p) : cF (sF χ p j x) q = cF χ q := by funext k; unfold cF sF; dsimp only; rw [up2_n _ _ _ h]
theorem rFA {χ : St} {p i : Nat} {x : Int32} : cF (sA χ p i x) = cF χ := rfl
theorem rFL {χ : St} {p i : Nat} {x : Int64} : cF (sL χ p i x) = cF χ := rfl
theorem rFW {χ : St} {w : Nat × Nat} : cF (sW χ w) = cF χ := rfl
theorem rAs {χ : St} {p j : Nat} {x : Int32} : cA (sA χ p j x) p j = x := by unfold cA sA; dsimp only; rw [up2_s]; exact pk_us
theorem rAj {χ : St} {p j k : Nat} {x : Int32} (h : k ≠ j) : cA (sA χ p j x) p k = cA χ p k := by unfold cA sA; dsimp only; rw [up2_s]; exact pk_un h
theorem rAp {χ : St} {p q j : Nat} {x : Int32} (h : q ≠ p) : cA (sA χ p j x) q = cA χ q := by funext k; unfold cA sA; dsimp only; rw [up2_n _ _ _ h]
theorem rAF {χ : St} {p i : Nat} {x : Int32} : cA (sF χ p i x) = cA χ := rfl
theorem rAL {χ : St} {p i : Nat} {x : Int64} : cA (sL χ p i x) = cA χ := rfl
theorem rAW {χ : St} {w : Nat × Nat} : cA (sW χ w) = cA χ := rfl
theorem rLs {χ : St} {p j : Nat} {x : Int64} : cL (sL χ p j x) p j = x := by unfold cL sL; dsimp only; rw [up3_s]; exact pk_uLs
theorem rLj {χ : St} {p j k : Nat} {x : Int64} (h : k ≠ j) : cL (sL χ p j x) p k = cL χ p k := by unfold cL sL; dsimp only; rw [up3_s]; exact pk_uLn h
theorem rLp {χ : St} {p q j : Nat} {x : Int64} (h : q ≠ p) : cL (sL χ p j x) q = cL χ q := by funext k; unfold cL sL; dsimp only; rw [up3_n _ _ _ h]
theorem rLF {χ : St} {p i : Nat} {x : Int32} : cL (sF χ p i x) = cL χ := rfl
theorem rLA {χ : St} {p i : Nat} {x : Int32} : cL (sA χ p i x) = cL χ := rfl
theorem rLW {χ : St} {w : Nat × Nat} : cL (sW χ w) = cL χ := rfl
theorem rWF {χ : St} {p i : Nat} {x : Int32} : cW (sF χ p i x) = cW χ := rfl
theorem rWA {χ : St} {p i : Nat} {x : Int32} : cW (sA χ p i x) = cW χ := rfl
theorem rWL {χ : St} {p i : Nat} {x : Int64} : cW (sL χ p i x) = cW χ := rfl
theorem rWW {χ : St} {w : Nat × Nat} : cW (sW χ w) = w := rfl
/-- tests of arguments -/
theorem l_toI (a : Int32) {n : Nat} (hn : n < 2 ^ 31) : (a.toInt64 < lN n ↔ a < nI n) ∧ (lN n < a.toInt64 ↔ nI n < a) := by
  have h1 : (lN n).toInt = (nI n).toInt := by rw [lN_toInt hn, nI_toInt hn]
  refine ⟨?_, ?_⟩
  · rw [Int64.lt_iff_toInt_lt, Int32.lt_iff_toInt_lt, Int32.toInt_toInt64, h1]
  · rw [Int64.lt_iff_toInt_lt, Int32.lt_iff_toInt_lt, Int32.toInt_toInt64, h1]
theorem in_ca (a : Int32) (lo hi : Nat) (hlo : lo < 2 ^ 31) (hhi : hi < 2 ^ 31) : (f_X12_in a.toInt64 (lN lo) (lN hi) = some 0 ∧ (a < nI lo ∨ nI hi < a)) ∨ ∃ j, lo ≤ j ∧ j ≤ hi ∧ a = nI j ∧ f_X12_in a.toInt64 (lN lo) (lN hi) = some 1 := by
  unfold f_X12_in
  have hA : lg_cmp a.toInt64 (lN lo) < 0 ↔ a < nI lo := (lg_cmp_lt _ _).trans (l_toI a hlo).1
  have hB : 0 < lg_cmp a.toInt64 (lN hi) ↔ nI hi < a := (lg_cmp_gt _ _).trans (l_toI a hhi).2
  by_cases h1 : a < nI lo
  · exact Or.inl ⟨by rw [if_pos (hA.mpr h1)], Or.inl h1⟩
  · rw [if_neg (fun q => h1 (hA.mp q))]
    by_cases h2 : nI hi < a
    · refine Or.inl ⟨?_, Or.inr h2⟩
      rw [if_pos (hB.mpr h2)]
    · refine Or.inr ?_
      have h0 : ¬ a < 0 := by
        intro h
        apply h1
        rw [Int32.lt_iff_toInt_lt] at h ⊢
        rw [nI_toInt hlo]
        have : (0 : Int32).toInt = 0 := rfl
        omega
      obtain ⟨j, hj, e⟩ := nI_of h0
      refine ⟨j, ?_, ?_, e, ?_⟩
      · rw [e, nI_ltI hj hlo] at h1; omega
      · rw [e, nI_ltI hhi hj] at h2; omega
      · rw [if_neg (fun h => h2 (hB.mp h))]
theorem lt_le {a b : Int32} (h : b < a) : ¬ a ≤ b := by
  rw [Int32.lt_iff_toInt_lt] at h
  rw [Int32.le_iff_toInt_le]; omega
theorem le_lt {a b : Int32} (h : b ≤ a) : ¬ a < b := by
  rw [Int32.le_iff_toInt_le] at h
  rw [Int32.lt_iff_toInt_lt]; omega
theorem nlt_le {a b : Int32} (h : ¬ a < b) : b ≤ a := by
  rw [Int32.lt_iff_toInt_lt] at h
  rw [Int32.le_iff_toInt_le]; omega
theorem nle_lt {a b : Int32} (h : ¬ a ≤ b) : b < a := by
  rw [Int32.le_iff_toInt_le] at h
  rw [Int32.lt_iff_toInt_lt]; omega
theorem nb_0 : nb 0 = true := by decide +kernel
theorem nb_1 : nb 1 = true := by decide +kernel
theorem vb_0 : vp_nar .boolean (0 : Int32) = 0 := by decide +kernel
theorem vb_1 : vp_nar .boolean (1 : Int32) = 1 := by decide +kernel
theorem ge_of {a : Int32} {n m : Nat} (hm : m = n + 1) (hm2 : m < 2 ^ 31) (h : nI n < a) : nI m ≤ a := by
  rw [Int32.lt_iff_toInt_lt, nI_toInt (by omega)] at h
  rw [Int32.le_iff_toInt_le, nI_toInt hm2]
  omega
theorem qu_ca (a b : Int32) : (f_X11_isQuestion a b = some 0 ∧ f_X12_isQuestion a b = some 0) ∨ ∃ t w, t < 4 ∧ w < 10 ∧ a = nI t ∧ b = nI w ∧ f_X11_isQuestion a b = some 1 ∧ f_X12_isQuestion a b = some 1 := by
  unfold f_X12_isQuestion f_X11_isQuestion
  simp only [lj_0, lj_3, lj_9]
  rcases in_ca a 0 3 (by omega) (by omega) with ⟨h1, h2⟩ | ⟨t, -, ht, e, h1⟩
  · refine Or.inl ⟨?_, ?_⟩
    · by_cases h3 : a < 0
      · rw [if_pos h3]
      · rcases h2 with h2 | h2
        · exact absurd h2 h3
        · rw [if_neg h3, if_pos (show (4 : Int32) ≤ a from ge_of (n := 3) (m := 4) rfl (by omega) h2)]
    · rw [bi_nd h1, if_pos rfl]
  · rcases in_ca b 0 9 (by omega) (by omega) with ⟨h3, h4⟩ | ⟨w, -, hw, e2, h3⟩
    · refine Or.inl ⟨?_, ?_⟩
      · rw [e, if_neg (nI_pos (by omega)), if_neg (show ¬ (4 : Int32) ≤ nI t from nI_ge (b := 4) (by omega) (by omega))]
        by_cases h5 : b < 0
        · rw [if_pos h5]
        · rcases h4 with h4 | h4
          · exact absurd h4 h5
          · rw [if_neg h5, if_pos (show (10 : Int32) ≤ b from ge_of (n := 9) (m := 10) rfl (by omega) h4)]
      · rw [bi_nd h1, if_neg (by decide), bi_nd h3, if_pos rfl]
    · refine Or.inr ⟨t, w, by omega, by omega, e, e2, ?_, ?_⟩
      · rw [e, e2, if_neg (nI_pos (by omega)), if_neg (show ¬ (4 : Int32) ≤ nI t from nI_ge (b := 4) (by omega) (by omega)), if_neg (nI_pos (by omega)), if_neg (show ¬ (10 : Int32) ≤ nI w from nI_ge (b := 10) (by omega) (by omega))]
      · rw [bi_nd h1, if_neg (by decide), bi_nd h3, if_neg (by decide)]
theorem bi_T {p : Nat → Bool} {k : Nat} (h : p k = true) : nI (bi p k) ||| nI (2 ^ k) = nI (bi p (k + 1)) := by
  rw [nI_or, bi_s, if_pos h]
theorem bi_F {p : Nat → Bool} {k : Nat} (h : ¬ p k = true) : nI (bi p k) = nI (bi p (k + 1)) := by
  rw [bi_s, if_neg h, Nat.or_zero]
theorem bi_F0 {p : Nat → Bool} {k : Nat} (h : ¬ p k = true) : nI (bi p k) ||| nI 0 = nI (bi p (k + 1)) := by
  rw [nI_or, bi_s, if_neg h]
theorem cn_T {p : Nat → Bool} {k : Nat} (h : p k = true) : cn p k + 1 = cn p (k + 1) := by rw [cn_s, if_pos h]
theorem cn_F {p : Nat → Bool} {k : Nat} (h : ¬ p k = true) : cn p k = cn p (k + 1) := by rw [cn_s, if_neg h]; rfl
theorem bi_31 (p : Nat → Bool) {n : Nat} (h : n ≤ 16) : bi p n < 65536 := Nat.lt_of_lt_of_le (bi_lt p n) (Nat.pow_le_pow_right (by omega) h)
