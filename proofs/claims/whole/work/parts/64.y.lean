/-! LAYER 2: how the reference reads a line. -/
def kt_ (c : Nat) : Nat := if c = 110 then 0 else if c = 112 then 1 else 2
theorem kt_t : ∀ c, c < 256 → lt_ c = true → kt_ c < 3 ∧ schr 3 (nI (kt_ c)) = nI c ∧ ∀ j, j < kt_ c → schr 3 (nI j) ≠ nI c := by decide +kernel
theorem kt_f : ∀ c, c < 256 → lt_ c = false → ∀ j, j < 3 → schr 3 (nI j) ≠ nI c := by decide +kernel
theorem x12_t3 {f : Nat → Nat} {L p : Nat} {s : St} (h : RA_ f L p s) : f_X12_takesOf s 3 = if p < L ∧ lt_ (f p) = true then some (nI (kt_ (f p)), sF s 300 10 (nI (p + 1))) else some (-1, s) := by
  obtain ⟨h1, h2, h3, h4, h5⟩ := h
  by_cases hp : p < L
  · obtain ⟨u, e⟩ := h5 p hp
    have st : ∀ j, j < 3 → f_X12_takesOf_s2 3 s (nI j) = if schr 3 (nI j) = nI (f p) then some (.inr (.inl (nI j, sF s 300 10 (nI (p + 1))))) else some (.inl (nI (j + 1), s)) := by
      intro j hj
      unfold f_X12_takesOf_s2
      rw [if_neg ((by decide +kernel : ∀ j, j < 3 → ¬ slen 3 ≤ nI j) j hj), h2, h3, if_neg (nI_ge hp (by omega)), gd_t ((by decide +kernel : ∀ j, j < 3 → insb (nI j) 3 = true) j hj), gd_n (by omega) (by omega), nI_clamp (by omega), e, nI_1, nI_1]
    unfold f_X12_takesOf
    cases c : lt_ (f p) with
    | false =>
      have hf := kt_f _ u c
      rw [if_neg (fun x => absurd x.2 (by decide))]
      refine bi_nd (v := (Sum.inr s : (Int32 × St) ⊕ St)) (it_for (fun j => (nI j, s)) 3 (by omega) rfl (fun j hj => ?_) ?_)
      · show f_X12_takesOf_s2 3 s (nI j) = _
        rw [st j hj, if_neg (hf j hj)]
      · show f_X12_takesOf_s2 3 s (nI 3) = _
        unfold f_X12_takesOf_s2
        rw [if_pos (by decide)]
    | true =>
      obtain ⟨k1, k2, k3⟩ := kt_t _ u c
      rw [if_pos ⟨hp, rfl⟩]
      refine bi_nd (v := (Sum.inl (nI (kt_ (f p)), sF s 300 10 (nI (p + 1))) : (Int32 × St) ⊕ St)) (it_for (fun j => (nI j, s)) (kt_ (f p)) (by omega) rfl (fun j hj => ?_) ?_)
      · show f_X12_takesOf_s2 3 s (nI j) = _
        rw [st j (by omega), if_neg (k3 j hj)]
      · show f_X12_takesOf_s2 3 s (nI (kt_ (f p))) = _
        rw [st _ k1, if_pos k2]
  · unfold f_X12_takesOf
    rw [if_neg (fun x => hp x.1)]
    refine bi_nd (v := (Sum.inr s : (Int32 × St) ⊕ St)) ?_
    have e1 : f_X12_takesOf_s2 3 s (0 : Int32) = some (.inr (.inr s)) := by
      unfold f_X12_takesOf_s2
      rw [if_neg (by decide +kernel), h2, h3, if_pos (nI_le (by omega) (by omega))]
    show iter (fun z : Int32 × St => f_X12_takesOf_s2 3 z.2 z.1) (4095 + 1) ((0 : Int32), s) = _
    rw [it_x 4095 e1]
def EO_ (σ s : St) : Prop := cL s = cL σ ∧ (∀ j, j ≠ 10 → j ≠ 14 → cF s 300 j = cF σ 300 j) ∧ ∀ q, q ≠ 313 → cA s q = cA σ q
theorem EO_.rf (σ : St) : EO_ σ σ := ⟨rfl, fun _ _ _ => rfl, fun _ _ => rfl⟩
theorem EO_.f {j : Nat} {σ s : St} {x : Int32} (h : EO_ σ s) (hj : j = 10 ∨ j = 14) : EO_ σ (sF s 300 j x) := ⟨h.1, fun i a b => (rFj (by omega)).trans (h.2.1 i a b), h.2.2⟩
theorem EO_.a {i : Nat} {σ s : St} {x : Int32} (h : EO_ σ s) : EO_ σ (sA s 313 i x) := ⟨h.1, h.2.1, fun q hq => (rAp hq).trans (h.2.2 q hq)⟩
theorem EO_.tr {a b d : St} (h : EO_ a b) (k : EO_ b d) : EO_ a d := ⟨k.1.trans h.1, fun j x y => (k.2.1 j x y).trans (h.2.1 j x y), fun q x => (k.2.2 q x).trans (h.2.2 q x)⟩
theorem RA_.eo {f : Nat → Nat} {L p : Nat} {σ s : St} (h : RA_ f L p σ) (k : EO_ σ s) {p' : Nat} (hp : p' ≤ L) (e : cF s 300 10 = nI p') : RA_ f L p' s := ⟨h.1, (k.2.1 11 (by omega) (by omega)).trans h.2.1, e, hp, fun i hi => ⟨(h.2.2.2.2 i hi).1, by rw [k.2.2 308 (by omega)]; exact (h.2.2.2.2 i hi).2⟩⟩
/-- a line's view -/
def lv_ (f : Nat → Nat) (p : Nat) : Nat := 10 * (f (p + 2) - 48) + (f (p + 3) - 48)
theorem x12_td {f : Nat → Nat} {L p : Nat} {s : St} (h : RA_ f L p s) : f_X12_twoDigits s = if p < L ∧ dg (f p) = true then (if p + 1 < L ∧ dg (f (p + 1)) = true then some (nI (10 * (f p - 48) + (f (p + 1) - 48)), sF (sF s 300 10 (nI (p + 1))) 300 10 (nI (p + 1 + 1))) else some (-1, sF s 300 10 (nI (p + 1)))) else some (-1, s) := by
  have h80 := h.1
  have e1 := x12_n1 h
  unfold f_X12_twoDigits f_X12_twoDigits_j19
  by_cases c : p < L ∧ dg (f p) = true
  · have hd : 48 ≤ f p ∧ f p ≤ 57 := of_decide_eq_true c.2
    have e2 := x12_n1 (h.nx c.1)
    rw [if_pos c] at e1
    rw [bi_nd e1, if_pos c]
    dsimp only
    rw [if_pos (show (0 : Int32) ≤ nI (f p - 48) from nI_le (a := 0) (by omega) (by omega))]
    by_cases c2 : p + 1 < L ∧ dg (f (p + 1)) = true
    · have hd2 : 48 ≤ f (p + 1) ∧ f (p + 1) ≤ 57 := of_decide_eq_true c2.2
      rw [if_pos c2] at e2
      rw [bi_nd e2, if_pos c2]
      dsimp only
      rw [if_pos (show (0 : Int32) ≤ nI (f (p + 1) - 48) from nI_le (a := 0) (by omega) (by omega)), show (10 : Int32) = nI 10 from rfl, pk_mul, nI_add]
    · rw [if_neg c2] at e2
      rw [bi_nd e2, if_neg c2]
      rfl
  · rw [if_neg c] at e1
    rw [bi_nd e1, if_neg c]
    rfl
