/-! LAYER 2: lines of oysters; how the class finds the fault. -/
def lt_ (c : Nat) : Bool := decide (c = 110 ∨ c = 112 ∨ c = 114)
/-- the sign at i can stand, if all ahead of it can -/
def cs_ (f : Nat → Nat) (R i : Nat) : Bool := if i % 5 = 0 then decide (i / 5 < R) && lt_ (f i) else if i % 5 = 3 then dg (f i) && (!dg (f (i - 1)) || decide (10 * (f (i - 1) - 48) + (f i - 48) < 16)) else if i % 5 = 4 then decide (f i = 59) else dg (f i)
theorem lt_c : ∀ c, c < 256 → (if nI c = (110 : Int32) then (1 : Int32) else (if nI c = (112 : Int32) then (1 : Int32) else (if nI c = (114 : Int32) then (1 : Int32) else (0 : Int32)))) = nI (lt_ c).toNat := by decide +kernel
theorem td_c : ∀ a, a < 256 → dg a = true → ∀ b, b < 256 → dg b = true → (if (16 : Int32) ≤ (10 : Int32) * nI (a - 48) + nI (b - 48) then (0 : Int32) else (1 : Int32)) = nI (decide (10 * (a - 48) + (b - 48) < 16)).toNat := by decide +kernel
theorem te_c : ∀ b, b < 256 → dg b = true → (if (16 : Int32) ≤ (10 : Int32) * (-1 : Int32) + nI (b - 48) then (0 : Int32) else (1 : Int32)) = (1 : Int32) := by decide +kernel
theorem se_c : ∀ c, c < 256 → (if nI c = (59 : Int32) then (1 : Int32) else (0 : Int32)) = nI (decide (c = 59)).toNat := by decide +kernel
theorem x8_cs {T : Nat × (Nat → Nat)} {χ σ : St} (h : RT T χ σ) {R i : Nat} (hi : i < T.1) (hR : R ≤ 8) : f_X8_canStandInLines χ (nI i) (nI R) = some (nI (cs_ T.2 R i).toNat) := by
  have h80 := h.1
  have u := (h.2.2.2 i hi).1
  have e0 := x8_at h hi
  have e1 := x8_dg h hi
  unfold f_X8_canStandInLines cs_
  rw [bi_nd e0, show (5 : Int32) = nI 5 from rfl, pk_div (by omega) (by omega) (by omega), pk_rn 5 (by omega) (by omega) (by omega)]
  by_cases c0 : i % 5 = 0
  · rw [if_pos c0, if_pos (show nI (i % 5) = 0 by rw [c0]; rfl), lt_c _ u]
    by_cases q : i / 5 < R
    · rw [if_neg (nI_ge q (by omega)), decide_eq_true q, Bool.true_and]
    · rw [if_pos (nI_le (by omega) (by omega)), decide_eq_false q]; rfl
  rw [if_neg c0, if_neg (show ¬ nI (i % 5) = 0 from nI_ne0 (by omega) (by omega))]
  by_cases c3 : i % 5 = 3
  · have u1 := (h.2.2.2 (i - 1) (by omega)).1
    have e2 := x8_dg h (i := i - 1) (by omega)
    rw [if_pos c3, if_pos (show nI (i % 5) = 3 by rw [c3]; rfl), bi_nd e1]
    cases hd : dg (T.2 i) with
    | false =>
      rw [if_neg (show ¬ false = true by decide), if_pos (show (-1 : Int32) < 0 by decide)]; rfl
    | true =>
      rw [if_pos rfl, if_neg (nI_pos (by have : 48 ≤ T.2 i ∧ T.2 i ≤ 57 := of_decide_eq_true hd; omega)), Bool.true_and]
      unfold f_X8_twoDigitsAt
      rw [show (1 : Int32) = nI 1 from rfl, pk_sub (by omega), nI_add, show i - 1 + 1 = i by omega, bi_nd e2, bi_nd e1, hd, if_pos rfl, ob_s]
      cases hd2 : dg (T.2 (i - 1)) with
      | false =>
        rw [if_neg (show ¬ false = true by decide)]
        exact congrArg some (te_c _ u hd)
      | true =>
        rw [if_pos rfl]
        exact congrArg some (td_c _ u1 hd2 _ u hd)
  rw [if_neg c3, if_neg (show ¬ nI (i % 5) = 3 from fun x => c3 ((nI_eq (b := 3) (by omega) (by omega)).mp x))]
  by_cases c4 : i % 5 = 4
  · rw [if_pos c4, if_pos (show nI (i % 5) = 4 by rw [c4]; rfl), se_c _ u]
  rw [if_neg c4, if_neg (show ¬ nI (i % 5) = 4 from fun x => c4 ((nI_eq (b := 4) (by omega) (by omega)).mp x)), bi_nd e1]
  cases hd : dg (T.2 i) with
  | false => rw [if_neg (show ¬ false = true by decide), if_pos (show (-1 : Int32) < 0 by decide)]; rfl
  | true => rw [if_pos rfl, if_neg (nI_pos (by have : 48 ≤ T.2 i ∧ T.2 i ≤ 57 := of_decide_eq_true hd; omega))]; rfl
/-- where the lines' fault is: p; or none -/
theorem x8_fl {T : Nat × (Nat → Nat)} {χ σ : St} (h : RT T χ σ) {R : Nat} (hR : R ≤ 8) : (∃ p, p < min T.1 39 ∧ (∀ i, i < p → cs_ T.2 R i = true) ∧ cs_ T.2 R p = false ∧ f_X8_faultAsLines χ (nI R) = some (nI p)) ∨ ((∀ i, i < min T.1 39 → cs_ T.2 R i = true) ∧ f_X8_faultAsLines χ (nI R) = some (if T.1 ≤ 39 then (if T.1 = 0 ∨ T.1 % 5 = 4 then -1 else nI T.1) else nI 39)) := by
  obtain ⟨t1, t2, t3, t4⟩ := id h
  have hLc : (T.1 ≤ 39 ∧ min T.1 39 = T.1) ∨ (39 < T.1 ∧ min T.1 39 = 39) := by omega
  unfold f_X8_faultAsLines
  rw [t2]
  have hy : (if (39 : Int32) < nI T.1 then (39 : Int32) else nI T.1) = nI (min T.1 39) := by
    rcases hLc with ⟨q, e⟩ | ⟨q, e⟩
    · rw [e, if_neg (show ¬ (39 : Int32) < nI T.1 from fun x => absurd ((nI_ltI (a := 39) (by omega) (by omega)).mp x) (by omega))]
    · rw [e, if_pos (show (39 : Int32) < nI T.1 from nI_lt (a := 39) q (by omega))]; rfl
  rw [hy]
  obtain ⟨x, e1, hx⟩ := it_inx (step := fun z : Int32 => f_X8_faultAsLines_s12 χ (nI R) (nI (min T.1 39)) z) (s := (0 : Int32)) (fun (k : Nat) (z : Int32) => z = nI k ∧ ∀ i, i < k → cs_ T.2 R i = true) (fun x => (∃ p, p < min T.1 39 ∧ (∀ i, i < p → cs_ T.2 R i = true) ∧ cs_ T.2 R p = false ∧ x = .inl (nI p)) ∨ ((∀ i, i < min T.1 39 → cs_ T.2 R i = true) ∧ x = .inr ())) (min T.1 39) (by omega) ⟨rfl, fun i hi => absurd hi (Nat.not_lt_zero i)⟩
    (fun k z hk hI => by
      obtain ⟨rfl, hI⟩ := hI
      show (_ ∧ ∃ s', f_X8_faultAsLines_s12 χ (nI R) (nI (min T.1 39)) (nI k) = some (.inl s') ∧ _) ∨ ∃ x, f_X8_faultAsLines_s12 χ (nI R) (nI (min T.1 39)) (nI k) = some (.inr x) ∧ _
      unfold f_X8_faultAsLines_s12
      by_cases q : k < min T.1 39
      · rw [if_neg (nI_ge q (by omega)), bi_nd (x8_cs h (by omega) hR)]
        cases hc : cs_ T.2 R k with
        | false =>
          right
          rw [if_pos (show nI (false).toNat = 0 from rfl)]
          exact ⟨_, rfl, Or.inl ⟨k, q, hI, hc, rfl⟩⟩
        | true =>
          left
          rw [if_neg (show ¬ nI (true).toNat = 0 by decide), nI_1]
          refine ⟨q, _, rfl, rfl, fun i hi => ?_⟩
          by_cases e : i = k
          · rw [e]; exact hc
          · exact hI i (by omega)
      · right
        rw [if_pos (nI_le (by omega) (by omega))]
        exact ⟨_, rfl, Or.inr ⟨fun i hi => hI i (by omega), rfl⟩⟩)
  rcases hx with ⟨p, p1, p2, p3, rfl⟩ | ⟨p2, rfl⟩
  · exact Or.inl ⟨p, p1, p2, p3, bi_nd e1⟩
  · refine Or.inr ⟨p2, (bi_nd e1).trans ?_⟩
    show some _ = _
    by_cases c : T.1 ≤ 39
    · rw [if_pos c, if_pos (show nI T.1 ≤ (39 : Int32) from nI_le (b := 39) c (by omega)), show (5 : Int32) = nI 5 from rfl, pk_div (by omega) (by omega) (by omega), pk_rn 5 (by omega) (by omega) (by omega)]
      by_cases c0 : T.1 = 0
      · rw [if_pos (Or.inl c0), if_pos (by rw [c0]; rfl)]
      · rw [if_neg (show ¬ nI T.1 = 0 from nI_ne0 (by omega) (by omega))]
        by_cases c4 : T.1 % 5 = 4
        · rw [if_pos (Or.inr c4), if_pos (by rw [c4]; rfl)]
        · rw [if_neg (show ¬ (T.1 = 0 ∨ T.1 % 5 = 4) by omega), if_neg (show ¬ nI (T.1 % 5) = 4 from fun x => c4 ((nI_eq (b := 4) (by omega) (by omega)).mp x))]
    · rw [if_neg c, if_neg (show ¬ nI T.1 ≤ (39 : Int32) from nI_ge (a := 39) (by omega) (by omega))]; rfl
