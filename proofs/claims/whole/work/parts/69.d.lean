/-! LAYER 2: the reference lays the oysters. -/
theorem oy_2 {B : Bd_} {f : Nat → Nat} {σ : St} {m : Nat} (hr : BR 306 0 B σ) (h8 : B.1 + m ≤ 8) (h14 : cF σ 300 14 = nI m) (hLD : ∀ j, j < m → LD_ f j σ) : ∃ σ', iter (fun z : Int32 × St => f_X12_oysters_s81 z.2 z.1) FU ((0 : Int32), σ) = some σ' ∧ BR 306 0 (ad_B B f m) σ' ∧ cL σ' = cL σ ∧ (∀ j, j ≠ 3 → cF σ' 300 j = cF σ 300 j) ∧ ∀ p, p ≠ 305 → p ≠ 306 → cA σ' p = cA σ p := by
  refine it_inv (fun (j : Nat) (z : Int32 × St) => z.1 = nI j ∧ BR 306 0 (ad_B B f j) z.2 ∧ cL z.2 = cL σ ∧ (∀ j, j ≠ 3 → cF z.2 300 j = cF σ 300 j) ∧ ∀ p, p ≠ 305 → p ≠ 306 → cA z.2 p = cA σ p) _ m (by omega) ⟨rfl, br_a0 hr, rfl, fun _ _ => rfl, fun _ _ _ => rfl⟩ (fun j z hj hI => ?_) (fun z hI => ?_)
  · obtain ⟨z1, s⟩ := z
    obtain ⟨rfl, hB, i1, i2, i3⟩ := hI
    dsimp only at hB i1 i2 i3
    obtain ⟨l1, l2, l3⟩ := hLD j hj
    have e := x12_lay (σ := s) (n := B.1 + j) (x := j) (a := nI (kt_ (f (5 * j)))) (c := nI (f (5 * j + 1) - 48)) (d := nI (lv_ f (5 * j))) hB.1 (by omega) (by omega) (by rw [i2 14 (by omega), h14]; exact nI_ge hj (by omega)) (by rw [i3 313 (by omega) (by omega)]; exact l1) (by rw [i3 313 (by omega) (by omega)]; exact l2) (by rw [i3 313 (by omega) (by omega)]; exact l3)
    refine ⟨_, e, rfl, br_ly hB (by omega), i1, fun k hk => (rFj hk).trans (i2 k hk), fun p a b => ?_⟩
    rw [rAF, rAp b, rAp b, rAp a]
    exact i3 p a b
  · obtain ⟨z1, s⟩ := z
    obtain ⟨rfl, hB, i1, i2, i3⟩ := hI
    dsimp only at hB i1 i2 i3
    refine ⟨s, ?_, hB, i1, i2, i3⟩
    show f_X12_oysters_s81 s (nI m) = _
    unfold f_X12_oysters_s81
    rw [i2 14 (by omega), h14, if_pos (nI_le (Nat.le_refl _) (by omega))]
theorem x12_fb {s : St} {n p : Nat} {v : Nat} (hn : n ≤ 80) (h10 : cF s 300 10 = nI p) (h11 : cF s 300 11 = nI (min n 39)) (hv : v ≤ 1) (hb : (v = 1 ∧ p = min n 39) ∨ (v = 0 ∧ p ≤ min n 39) ∨ p < min n 39) : f_X12_faultOf s (nI n) (39 : Int32) (nI v) = some (if v = 1 ∧ p = min n 39 then (if n ≤ 39 then 0 else -1 - nI 39) else -1 - nI p) := by
  have hp : p ≤ min n 39 := by omega
  unfold f_X12_faultOf
  rw [h10, h11]
  have hs : (if nI v = 0 then (0 : Int32) else (if nI p = nI (min n 39) then (1 : Int32) else (0 : Int32))) = if v = 1 ∧ p = min n 39 then 1 else 0 := by
    by_cases c : v = 0
    · rw [if_pos (by rw [c]; rfl), if_neg (by omega)]
    · rw [if_neg (show ¬ nI v = 0 from nI_ne0 (by omega) (by omega))]
      by_cases d : p = min n 39
      · rw [if_pos (by rw [d]), if_pos ⟨by omega, d⟩]
      · rw [if_neg (fun x => d ((nI_eq (by omega) (by omega)).mp x)), if_neg (fun x => d x.2)]
  rw [hs]
  unfold f_X12_faultOf_j20 f_X12_faultOf_j40 f_X12_faultOf_j44
  rw [h10]
  by_cases g : v = 1 ∧ p = min n 39
  · rw [if_pos g, if_pos g]
    by_cases c : n ≤ 39
    · rw [if_pos (show nI n ≤ (39 : Int32) from nI_le (b := 39) c (by omega)), if_neg (by decide), if_pos c]
    · rw [if_neg (show ¬ nI n ≤ (39 : Int32) from nI_ge (a := 39) (by omega) (by omega)), if_neg (by decide), if_neg c]; rfl
  · rw [if_neg g, if_neg g, if_pos (show (0 : Int32) = 0 from rfl)]
    by_cases c : n ≤ 39
    · rw [if_pos (show nI n ≤ (39 : Int32) from nI_le (b := 39) c (by omega))]
    · rw [if_neg (show ¬ nI n ≤ (39 : Int32) from nI_ge (a := 39) (by omega) (by omega))]
      by_cases d : p < 39
      · rw [if_pos (show nI p < (39 : Int32) from nI_lt (b := 39) d (by omega))]
        rfl
      · have e : p = 39 := by omega
        rw [e]; first | rfl | (rw [if_neg (by decide)]; rfl) | (rw [if_pos rfl, if_neg (by decide)]; rfl)
