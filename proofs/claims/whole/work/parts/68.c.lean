/-! LAYER 2: the class lays the oysters. -/
theorem ad_i {B : Bd_} {f : Nat → Nat} {j i l : Nat} (h : l < B.1) : (ad_B B f j).2.1 i l = B.2.1 i l := if_pos h
theorem bc_a0 {b : Nat} {B : Bd_} {f : Nat → Nat} {χ : St} (h : BC_ b B χ) : BC_ b (ad_B B f 0) χ := by
  obtain ⟨h1, h2, h3, h4⟩ := h
  refine ⟨h1, h2, h3, fun l hl => ?_⟩
  have hl2 : l < B.1 := hl
  rw [ad_i hl2, ad_i hl2, ad_i hl2, ad_i hl2, ad_i hl2]
  exact h4 l hl2
theorem br_a0 {B : Bd_} {f : Nat → Nat} {σ : St} (h : BR 306 0 B σ) : BR 306 0 (ad_B B f 0) σ := by
  obtain ⟨h1, h2, h3, h4, h5⟩ := h
  refine ⟨h1, h2, h3, fun l hl => ?_, h5⟩
  have hl2 : l < B.1 := hl
  rw [ad_i hl2, ad_i hl2, ad_i hl2, ad_i hl2, ad_i hl2]
  exact h4 l hl2
theorem oy_1 {B : Bd_} {T : Nat × (Nat → Nat)} {χ σx : St} {q w : Nat} (hw2 : w ≠ 2) (hT : RT T χ σx) (hb : BC_ 32 B χ) (hq : T.1 = 5 * q + 4) (h8 : B.1 + (q + 1) ≤ 8) (hcs : ∀ i, i < T.1 → cs_ T.2 (8 - B.1) i = true) : ∃ χ', iter (fun z : Int32 × Int32 × St => f_X11_oysters_s40 z.2.2 z.1 z.2.1) FU ((0 : Int32), (0 : Int32), χ) = some (nI (q + 1), χ') ∧ BC_ 32 (ad_B B T.2 (q + 1)) χ' ∧ FC_ 32 w χ χ' := by
  obtain ⟨x, e, hx1, hx2, hx3⟩ := it_inv (step := fun z : Int32 × Int32 × St => f_X11_oysters_s40 z.2.2 z.1 z.2.1) (s := ((0 : Int32), (0 : Int32), χ)) (fun (j : Nat) (z : Int32 × Int32 × St) => z.1 = nI j ∧ z.2.1 = nI (5 * j) ∧ BC_ 32 (ad_B B T.2 j) z.2.2 ∧ FC_ 32 w χ z.2.2) (fun x => x.1 = nI (q + 1) ∧ BC_ 32 (ad_B B T.2 (q + 1)) x.2 ∧ FC_ 32 w χ x.2) (q + 1) (by omega) ⟨rfl, rfl, bc_a0 hb, FC_.rf _ _ _⟩
    (fun j z hj hI => by
      obtain ⟨z1, z2, s⟩ := z
      obtain ⟨rfl, rfl, hB, hF⟩ := hI
      dsimp only at hB hF
      have c0 := hcs (5 * j) (by omega)
      have c1 := hcs (5 * j + 1) (by omega)
      have c2 := hcs (5 * j + 2) (by omega)
      have c3 := hcs (5 * j + 3) (by omega)
      rw [cs_0, Bool.and_eq_true] at c0
      rw [cs_1] at c1
      rw [cs_2] at c2
      rw [cs_3, Bool.and_eq_true] at c3
      have t1 : cF s 1 = cF χ 1 := hF.2.2.1 1 (by omega)
      have hT2 : RT T s σx := hT.cg t1 (hF.2.2.2 2 (fun x => hw2 x.symm) (by omega)) rfl rfl
      have u := (hT.2.2.2 (5 * j) (by omega)).1
      have e0 := x8_at hT2 (i := 5 * j) (by omega)
      have e1 := x8_dg hT2 (i := 5 * j + 1) (by omega)
      have e2 := x8_dg hT2 (i := 5 * j + 2) (by omega)
      have e3 := x8_dg hT2 (i := 5 * j + 3) (by omega)
      rw [if_pos c1] at e1
      rw [if_pos c2] at e2
      rw [if_pos c3.1] at e3
      have et : f_X8_twoDigitsAt s (nI (5 * j + 2)) = some (nI (lv_ T.2 (5 * j))) := by
        unfold f_X8_twoDigitsAt
        rw [bi_nd e2, nI_1, bi_nd e3, show (10 : Int32) = nI 10 from rfl, pk_mul, nI_add]
        rfl
      show ∃ s', f_X11_oysters_s40 s (nI j) (nI (5 * j)) = some (.inl s') ∧ _
      unfold f_X11_oysters_s40
      rw [t1, hT.2.1, if_neg (nI_ge (by omega) (by omega)), bi_nd e0, bi_nd (ki_c _ u c0.2), nI_1, bi_nd e1, show (2 : Int32) = nI 2 from rfl, nI_add, bi_nd et, bi_nd (x0_adm (n := B.1 + j) hB.1 (by omega)), nI_1, show (5 : Int32) = nI 5 from rfl, nI_add]
      refine ⟨_, rfl, rfl, by dsimp only; rw [Nat.mul_add], bc_ly hB, hF.tr ⟨rfl, rfl, fun p hp => rFp hp, fun p hp hp2 => ?_⟩⟩
      rw [rAF, rAp (by omega), rAp (by omega), rAp (by omega), rAp (by omega), rAp (by omega)])
    (fun z hI => by
      obtain ⟨z1, z2, s⟩ := z
      obtain ⟨rfl, rfl, hB, hF⟩ := hI
      dsimp only at hB hF
      refine ⟨(nI (q + 1), s), ?_, rfl, hB, hF⟩
      show f_X11_oysters_s40 s (nI (q + 1)) (nI (5 * (q + 1))) = _
      unfold f_X11_oysters_s40
      rw [hF.2.2.1 1 (by omega), hT.2.1, if_pos (nI_le (by omega) (by have := hT.1; omega))])
  obtain ⟨x1, x2⟩ := x
  dsimp only at hx1 hx2 hx3
  subst hx1
  exact ⟨x2, e, hx2, hx3⟩
