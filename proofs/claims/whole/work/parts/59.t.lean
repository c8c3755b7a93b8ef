/-! LAYER 2: how the reference reads a season. -/
def RA_ (f : Nat → Nat) (L p : Nat) (s : St) : Prop := L ≤ 80 ∧ cF s 300 11 = nI L ∧ cF s 300 10 = nI p ∧ p ≤ L ∧ ∀ i, i < L → f i < 256 ∧ cA s 308 i = nI (f i)
def EA_ (c : Nat) (σ s : St) : Prop := cL s = cL σ ∧ (∀ j, j ≠ 10 → j ≠ 26 → cF s 300 j = cF σ 300 j) ∧ ∀ q i, ((q ≠ 323 ∧ q ≠ 324 ∧ q ≠ 325) ∨ i ≠ c) → cA s q i = cA σ q i
theorem EA_.rf (c : Nat) (σ : St) : EA_ c σ σ := ⟨rfl, fun _ _ _ => rfl, fun _ _ _ => rfl⟩
theorem EA_.f {c j : Nat} {σ s : St} {x : Int32} (h : EA_ c σ s) (hj : j = 10 ∨ j = 26) : EA_ c σ (sF s 300 j x) := ⟨h.1, fun i a b => (rFj (by omega)).trans (h.2.1 i a b), h.2.2⟩
theorem EA_.a {c q : Nat} {σ s : St} {x : Int32} (h : EA_ c σ s) (hq : q = 323 ∨ q = 324 ∨ q = 325) : EA_ c σ (sA s q c x) := by
  refine ⟨h.1, h.2.1, fun r i hr => ?_⟩
  by_cases e : r = q
  · subst e
    rw [rAj (by omega)]
    exact h.2.2 r i hr
  · rw [rAp e]
    exact h.2.2 r i hr
theorem EA_.tr {c : Nat} {a b d : St} (h : EA_ c a b) (k : EA_ c b d) : EA_ c a d := ⟨k.1.trans h.1, fun j x y => (k.2.1 j x y).trans (h.2.1 j x y), fun q i x => (k.2.2 q i x).trans (h.2.2 q i x)⟩
theorem RA_.ea {f : Nat → Nat} {L p c : Nat} {σ s : St} (h : RA_ f L p σ) (k : EA_ c σ s) {p' : Nat} (hp : p' ≤ L) (e : cF s 300 10 = nI p') : RA_ f L p' s := ⟨h.1, (k.2.1 11 (by omega) (by omega)).trans h.2.1, e, hp, fun i hi => ⟨(h.2.2.2.2 i hi).1, (k.2.2 308 i (Or.inl ⟨by omega, by omega, by omega⟩)).trans (h.2.2.2.2 i hi).2⟩⟩
theorem id_c : ∀ c, c < 256 → (f_X12_in (nI c).toInt64 (48 : Int64) (57 : Int64)).bind (fun q2 => some (if q2 = 0 then (0 : Int32) else (1 : Int32))) = some (nI (dg c).toNat) := by decide +kernel
theorem di_c : ∀ c, c < 256 → ∀ h, h < 10 → f_X12_in (nI c - (48 : Int32)).toInt64 (0 : Int32).toInt64 (nI h).toInt64 = some (nI (decide (48 ≤ c ∧ c ≤ 48 + h)).toNat) := by decide +kernel
theorem x12_id {f : Nat → Nat} {L p : Nat} {s : St} (h : RA_ f L p s) : f_X12_isDigit s = some (nI (decide (p < L) && dg (f p)).toNat) := by
  obtain ⟨h1, h2, h3, h4, h5⟩ := h
  unfold f_X12_isDigit
  rw [h2, h3]
  by_cases q : p < L
  · obtain ⟨u, e⟩ := h5 p q
    rw [if_neg (nI_ge q (by omega)), gd_n (by omega) (by omega), nI_clamp (by omega), e, id_c _ u, decide_eq_true q, Bool.true_and]
  · rw [if_pos (nI_le (by omega) (by omega)), decide_eq_false q]
    rfl
theorem x12_di {f : Nat → Nat} {L p m : Nat} {s : St} (h : RA_ f L p s) (hm : m ≤ 9) : f_X12_digitIn s (0 : Int32) (nI m) = if p < L ∧ 48 ≤ f p ∧ f p ≤ 48 + m then some (nI (f p - 48), sF s 300 10 (nI (p + 1))) else some (-1, s) := by
  obtain ⟨h1, h2, h3, h4, h5⟩ := h
  unfold f_X12_digitIn
  rw [h2, h3]
  by_cases q : p < L
  · obtain ⟨u, e⟩ := h5 p q
    rw [if_neg (nI_ge q (by omega)), gd_n (by omega) (by omega), nI_clamp (by omega), e, bi_nd (di_c _ u _ (by omega)), rFs, nI_1, show nI (p + 1) - (1 : Int32) = nI p by rw [show (1 : Int32) = nI 1 from rfl, pk_sub (by omega), Nat.add_sub_cancel], gd_n (by omega) (by omega), nI_clamp (by omega), rAF, e]
    by_cases r : 48 ≤ f p ∧ f p ≤ 48 + m
    · rw [decide_eq_true r, if_neg (show ¬ nI (true).toNat = 0 by decide), if_pos ⟨q, r⟩, show (48 : Int32) = nI 48 from rfl, pk_sub r.1]
    · rw [decide_eq_false r, if_pos (show nI (false).toNat = 0 from rfl), if_neg (fun x => r x.2)]
  · rw [if_pos (nI_le (by omega) (by omega)), if_neg (fun x => q x.1)]
theorem x12_n1 {f : Nat → Nat} {L p : Nat} {s : St} (h : RA_ f L p s) : f_X12_number s (1 : Int32) = if p < L ∧ dg (f p) = true then some (nI (f p - 48), sF s 300 10 (nI (p + 1))) else some (-1, s) := by
  have hid := x12_id h
  unfold f_X12_number
  rw [bi_nd hid]
  obtain ⟨h1, h2, h3, h4, h5⟩ := h
  by_cases q : p < L ∧ dg (f p) = true
  · obtain ⟨u, e⟩ := h5 p q.1
    have hd : 48 ≤ f p ∧ f p ≤ 57 := of_decide_eq_true q.2
    rw [if_pos q, decide_eq_true q.1, q.2, if_neg (show ¬ nI (true && true).toNat = 0 by decide)]
    rw [decide_eq_true q.1, q.2] at hid
    have e1 : f_X12_number_s13 s (1 : Int32) (0 : Int32) (0 : Int32) = some (.inl (nI (f p - 48), (0 : Int32) + (1 : Int32), sF s 300 10 (nI (p + 1)))) := by
      unfold f_X12_number_s13
      rw [if_neg (by decide), bi_nd hid, if_neg (show ¬ nI (true && true).toNat = 0 by decide), h3, gd_n (by omega) (by omega), nI_clamp (by omega), e, nI_1, show (10 : Int32) * 0 = nI 0 by decide, nI_add, show (48 : Int32) = nI 48 from rfl, pk_sub (by omega), Nat.zero_add]
    have e2 : f_X12_number_s13 (sF s 300 10 (nI (p + 1))) (1 : Int32) (nI (f p - 48)) ((0 : Int32) + (1 : Int32)) = some (.inr (nI (f p - 48), sF s 300 10 (nI (p + 1)))) := by
      unfold f_X12_number_s13
      rw [if_pos (by decide)]
    exact bi_nd (show iter (fun z : Int32 × Int32 × St => f_X12_number_s13 z.2.2 (1 : Int32) z.1 z.2.1) (4094 + 1 + 1) ((0 : Int32), (0 : Int32), s) = some (nI (f p - 48), sF s 300 10 (nI (p + 1))) by rw [it_1 (4094 + 1) e1, it_x 4094 e2])
  · have : (decide (p < L) && dg (f p)) = false := by
      cases hd : dg (f p)
      · simp
      · rw [decide_eq_false (fun x => q ⟨x, hd⟩)]; rfl
    rw [this, if_pos (show nI (false).toNat = 0 from rfl), if_neg q]
theorem RA_.nx {f : Nat → Nat} {L p : Nat} {s : St} (h : RA_ f L p s) (hp : p < L) : RA_ f L (p + 1) (sF s 300 10 (nI (p + 1))) := ⟨h.1, (rFj (by omega)).trans h.2.1, rFs, by omega, h.2.2.2.2⟩
def kq (c : Nat) : Nat := if c = 107 then 1 else if c = 113 then 2 else if c = 102 then 3 else if c = 118 then 4 else 0
theorem kq_t : ∀ c, c < 256 → kd c ≠ 0 → kq c < 5 ∧ schr 8 (nI (kq c)) = nI c ∧ (∀ j, j < kq c → schr 8 (nI j) ≠ nI c) ∧ (kq c = 2 ↔ c = 113) ∧ (2 ≤ kq c ↔ 2 ≤ kd c) ∧ (kq c = 4 ↔ c = 118) ∧ (c = 118 ↔ kd c = 3) := by decide +kernel
theorem kq_f : ∀ c, c < 256 → kd c = 0 → ∀ j, j < 5 → schr 8 (nI j) ≠ nI c := by decide +kernel
theorem x12_to {f : Nat → Nat} {L p : Nat} {s : St} (h : RA_ f L p s) (hp : p < L) : f_X12_takesOf s 8 = if kd (f p) = 0 then some (-1, s) else some (nI (kq (f p)), sF s 300 10 (nI (p + 1))) := by
  obtain ⟨h1, h2, h3, h4, h5⟩ := h
  obtain ⟨u, e⟩ := h5 p hp
  have st : ∀ j, j < 5 → f_X12_takesOf_s2 8 s (nI j) = if schr 8 (nI j) = nI (f p) then some (.inr (.inl (nI j, sF s 300 10 (nI (p + 1))))) else some (.inl (nI (j + 1), s)) := by
    intro j hj
    unfold f_X12_takesOf_s2
    rw [if_neg ((by decide +kernel : ∀ j, j < 5 → ¬ slen 8 ≤ nI j) j hj), h2, h3, if_neg (nI_ge hp (by omega)), gd_t ((by decide +kernel : ∀ j, j < 5 → insb (nI j) 8 = true) j hj), gd_n (by omega) (by omega), nI_clamp (by omega), e, nI_1, nI_1]
  unfold f_X12_takesOf
  by_cases c : kd (f p) = 0
  · have hf := kq_f _ u c
    rw [if_pos c]
    refine bi_nd (v := (Sum.inr s : (Int32 × St) ⊕ St)) (it_for (fun j => (nI j, s)) 5 (by omega) rfl (fun j hj => ?_) ?_)
    · show f_X12_takesOf_s2 8 s (nI j) = _
      rw [st j hj, if_neg (hf j hj)]
    · show f_X12_takesOf_s2 8 s (nI 5) = _
      unfold f_X12_takesOf_s2
      rw [if_pos (by decide)]
  · obtain ⟨k1, k2, k3, -⟩ := kq_t _ u c
    rw [if_neg c]
    refine bi_nd (v := (Sum.inl (nI (kq (f p)), sF s 300 10 (nI (p + 1))) : (Int32 × St) ⊕ St)) (it_for (fun j => (nI j, s)) (kq (f p)) (by omega) rfl (fun j hj => ?_) ?_)
    · show f_X12_takesOf_s2 8 s (nI j) = _
      rw [st j (by omega), if_neg (k3 j hj)]
    · show f_X12_takesOf_s2 8 s (nI (kq (f p))) = _
      rw [st _ k1, if_pos k2]
/-- the numbers of an act at p -/
def n2_ (f : Nat → Nat) (p : Nat) : Nat := if f p = 118 then 10 * (f (p + 2) - 48) + (f (p + 3) - 48) else f (p + 2) - 48
def RD (f : Nat → Nat) (L p c : Nat) (s s1 : St) (r : Option (Int32 × St)) : Prop := ∃ v : Nat, r = some (nI v, s1) ∧ EA_ c s s1 ∧ ((fo f L p = 0 ∧ v = 1 ∧ cF s1 300 10 = nI (p + (1 + kd (f p))) ∧ cA s1 323 c = nI (kq (f p)) ∧ cA s1 324 c = nI (f (p + 1) - 48) ∧ (2 ≤ kd (f p) → cA s1 325 c = nI (n2_ f p))) ∨ (fo f L p ≠ 0 ∧ v = 0 ∧ cF s1 300 10 = nI (p + (fo f L p - 1))))
theorem nw_le {f : Nat → Nat} {L p : Nat} (h : fo f L p = 0) (h2 : 2 ≤ kd (f p)) : n2_ f p ≤ 99 := by
  obtain ⟨k1, k2, k3, k4, k5, k6⟩ := fo_0 h
  have e2 : 48 ≤ f (p + 2) ∧ f (p + 2) ≤ 57 := of_decide_eq_true (k5 h2).2
  unfold n2_
  split
  · rename_i e
    have : kd (f p) = 3 := by rw [e]; rfl
    have e3 : 48 ≤ f (p + 3) ∧ f (p + 3) ≤ 57 := of_decide_eq_true (k6 (by omega)).2
    omega
  · omega
theorem x12_r2 {f : Nat → Nat} {L p c : Nat} {s : St} (h : RA_ f L (p + 1) s) (hc : c < 60) (hu : f p < 256) (hk : kd (f p) ≠ 0) (h3 : cA s 323 c = nI (kq (f p))) : ∃ s1, RD f L p c s s1 (f_X12_readsAct_j62 s (nI c) (nI c) (0 : Int32) (nI (hx (f p)))) ∧ cF s1 300 26 = cF s 300 26 := by
  have h80 := h.1
  obtain ⟨k1, k2, k3, k4, k5, k6, k7⟩ := kq_t _ hu hk
  have hkd := kd_le (f p)
  have hm := hx_le (f p)
  have e1 := x12_di h hm
  unfold f_X12_readsAct_j62
  by_cases c1 : p + 1 < L ∧ 48 ≤ f (p + 1) ∧ f (p + 1) ≤ 48 + hx (f p)
  · have c1' : p + 1 < L ∧ dg (f (p + 1)) = true ∧ (f p = 113 → f (p + 1) ≤ 51) := by
      refine ⟨c1.1, decide_eq_true ⟨c1.2.1, by omega⟩, fun e => ?_⟩
      have := c1.2.2
      unfold hx at this
      rw [if_pos e] at this
      exact this
    rw [if_pos c1] at e1
    rw [bi_nd e1, gd_n (by omega) (by omega), gd_n (by omega) (by omega), nI_clamp (by omega)]
    dsimp only
    rw [rAs, if_neg (nI_pos (by omega)), gd_n (by omega) (by omega), rAp (by omega), rAF, h3]
    have hA := h.nx c1.1
    have hE : EA_ c s (sA (sF s 300 10 (nI (p + 1 + 1))) 324 c (nI (f (p + 1) - 48))) := ((EA_.rf c s).f (Or.inl rfl)).a (by omega)
    have hA2 : RA_ f L (p + 1 + 1) (sA (sF s 300 10 (nI (p + 1 + 1))) 324 c (nI (f (p + 1) - 48))) := h.ea hE (by omega) (by rw [rFA]; exact rFs)
    by_cases c2 : 2 ≤ kd (f p)
    · rw [if_pos (show (2 : Int32) ≤ nI (kq (f p)) from nI_le (a := 2) (k5.mpr c2) (by omega)), gd_n (by omega) (by omega)]
      by_cases c3 : f p = 118
      · have hk3 := k7.mp c3
        rw [if_pos (show nI (kq (f p)) = 4 by rw [k6.mpr c3]; rfl)]
        have e2 := x12_n1 hA2
        rw [show f (p + 1 + 1) = f (p + 2) from rfl] at e2
        unfold f_X12_twoDigits f_X12_twoDigits_j19
        by_cases c4 : p + 2 < L ∧ dg (f (p + 2)) = true
        · have hd2 : 48 ≤ f (p + 2) ∧ f (p + 2) ≤ 57 := of_decide_eq_true c4.2
          rw [if_pos c4] at e2
          have e3 := x12_n1 (hA2.nx c4.1)
          rw [show f (p + 1 + 1 + 1) = f (p + 3) from rfl] at e3
          rw [bi_nd e2]
          dsimp only
          rw [if_pos (show (0 : Int32) ≤ nI (f (p + 2) - 48) from nI_le (a := 0) (by omega) (by omega))]
          by_cases c5 : p + 3 < L ∧ dg (f (p + 3)) = true
          · have hd3 : 48 ≤ f (p + 3) ∧ f (p + 3) ≤ 57 := of_decide_eq_true c5.2
            have hf : fo f L p = 0 := by unfold fo; rw [if_neg hk, if_neg (fun x => x c1'), if_neg (fun x => x.2 c4), if_neg (fun x => x.2 c5)]
            rw [if_pos c5] at e3
            rw [bi_nd e3]
            dsimp only
            rw [if_pos (show (0 : Int32) ≤ nI (f (p + 3) - 48) from nI_le (a := 0) (by omega) (by omega)), show (10 : Int32) = nI 10 from rfl, pk_mul, nI_add, ob_s]
            unfold f_X12_readsAct_j127
            dsimp only
            rw [gd_n (by omega) (by omega), gd_n (by omega) (by omega), nI_clamp (by omega), rAs, if_neg (nI_pos (by omega))]
            refine ⟨_, ⟨1, rfl, ((hE.f (Or.inl rfl)).f (Or.inl rfl)).a (by omega), Or.inl ⟨hf, rfl, ?_, ?_, ?_, fun _ => ?_⟩⟩, ?_⟩
            · rw [rFA, rFs, hk3]
            · rw [rAp (by omega), rAF, rAF, rAp (by omega), rAF]; exact h3
            · rw [rAp (by omega), rAF, rAF, rAs]
            · rw [rAs, n2_, if_pos c3]
            · rw [rFA, rFj (by omega), rFj (by omega), rFA, rFj (by omega)]
          · have hf : fo f L p = 4 := by unfold fo; rw [if_neg hk, if_neg (fun x => x c1'), if_neg (fun x => x.2 c4), if_pos ⟨by omega, c5⟩]
            rw [if_neg c5] at e3
            rw [bi_nd e3]
            dsimp only
            rw [if_neg (by decide), ob_s]
            unfold f_X12_readsAct_j127
            dsimp only
            rw [gd_n (by omega) (by omega), gd_n (by omega) (by omega), nI_clamp (by omega), rAs, if_pos (by decide)]
            refine ⟨_, ⟨0, rfl, (hE.f (Or.inl rfl)).a (by omega), Or.inr ⟨by omega, rfl, ?_⟩⟩, ?_⟩
            · rw [rFA, rFs, hf]
            · rw [rFA, rFj (by omega), rFA, rFj (by omega)]
        · have hf : fo f L p = 3 := by unfold fo; rw [if_neg hk, if_neg (fun x => x c1'), if_pos ⟨c2, c4⟩]
          rw [if_neg c4] at e2
          rw [bi_nd e2]
          dsimp only
          rw [if_neg (by decide), if_neg (by decide), ob_s]
          unfold f_X12_readsAct_j127
          dsimp only
          rw [gd_n (by omega) (by omega), gd_n (by omega) (by omega), nI_clamp (by omega), rAs, if_pos (by decide)]
          refine ⟨_, ⟨0, rfl, hE.a (by omega), Or.inr ⟨by omega, rfl, ?_⟩⟩, ?_⟩
          · rw [rFA, rFA, rFs, hf]
          · rw [rFA, rFA, rFj (by omega)]
      · have hk2 : kd (f p) = 2 := by
          have : kd (f p) ≠ 3 := fun x => c3 (k7.mpr x)
          omega
        rw [if_neg (show ¬ nI (kq (f p)) = 4 from fun x => c3 (k6.mp ((nI_eq (b := 4) (by omega) (by omega)).mp x)))]
        have e2 := x12_n1 hA2
        rw [show f (p + 1 + 1) = f (p + 2) from rfl] at e2
        by_cases c4 : p + 2 < L ∧ dg (f (p + 2)) = true
        · have hd2 : 48 ≤ f (p + 2) ∧ f (p + 2) ≤ 57 := of_decide_eq_true c4.2
          have hf : fo f L p = 0 := by unfold fo; rw [if_neg hk, if_neg (fun x => x c1'), if_neg (fun x => x.2 c4), if_neg (fun x => absurd x.1 (by omega))]
          rw [if_pos c4] at e2
          rw [bi_nd e2]
          unfold f_X12_readsAct_j127
          dsimp only
          rw [gd_n (by omega) (by omega), gd_n (by omega) (by omega), nI_clamp (by omega), rAs, if_neg (nI_pos (by omega))]
          refine ⟨_, ⟨1, rfl, (hE.f (Or.inl rfl)).a (by omega), Or.inl ⟨hf, rfl, ?_, ?_, ?_, fun _ => ?_⟩⟩, ?_⟩
          · rw [rFA, rFs, hk2]
          · rw [rAp (by omega), rAF, rAp (by omega), rAF]; exact h3
          · rw [rAp (by omega), rAF, rAs]
          · rw [rAs, n2_, if_neg c3]
          · rw [rFA, rFj (by omega), rFA, rFj (by omega)]
        · have hf : fo f L p = 3 := by unfold fo; rw [if_neg hk, if_neg (fun x => x c1'), if_pos ⟨c2, c4⟩]
          rw [if_neg c4] at e2
          rw [bi_nd e2]
          unfold f_X12_readsAct_j127
          dsimp only
          rw [gd_n (by omega) (by omega), gd_n (by omega) (by omega), nI_clamp (by omega), rAs, if_pos (by decide)]
          refine ⟨_, ⟨0, rfl, hE.a (by omega), Or.inr ⟨by omega, rfl, ?_⟩⟩, ?_⟩
          · rw [rFA, rFA, rFs, hf]
          · rw [rFA, rFA, rFj (by omega)]
    · have hf : fo f L p = 0 := by unfold fo; rw [if_neg hk, if_neg (fun x => x c1'), if_neg (fun x => c2 x.1), if_neg (fun x => c2 (by omega))]
      rw [if_neg (show ¬ (2 : Int32) ≤ nI (kq (f p)) from nI_ge (b := 2) (by have := fun x => c2 (k5.mp x); omega) (by omega))]
      unfold f_X12_readsAct_j85
      rw [gd_n (by omega) (by omega), nI_clamp (by omega), rAs, if_neg (nI_pos (by omega))]
      refine ⟨_, ⟨1, rfl, hE, Or.inl ⟨hf, rfl, ?_, ?_, rAs, fun x => absurd x c2⟩⟩, ?_⟩
      · rw [rFA, rFs, show kd (f p) = 1 by omega]
      · rw [rAp (by omega), rAF]; exact h3
      · rw [rFA, rFj (by omega)]
  · have hf : fo f L p = 2 := by
      unfold fo
      rw [if_neg hk, if_pos (fun x => c1 ⟨x.1, (of_decide_eq_true x.2.1 : 48 ≤ f (p + 1) ∧ f (p + 1) ≤ 57).1, hx_i (of_decide_eq_true x.2.1 : 48 ≤ f (p + 1) ∧ f (p + 1) ≤ 57).2 x.2.2⟩)]
    rw [if_neg c1] at e1
    rw [bi_nd e1, gd_n (by omega) (by omega), gd_n (by omega) (by omega), nI_clamp (by omega)]
    dsimp only
    rw [rAs, if_pos (by decide)]
    unfold f_X12_readsAct_j85
    rw [gd_n (by omega) (by omega), nI_clamp (by omega), rAs, if_pos (by decide)]
    refine ⟨_, ⟨0, rfl, (EA_.rf c s).a (by omega), Or.inr ⟨by omega, rfl, ?_⟩⟩, rfl⟩
    rw [rFA, h.2.2.1, hf]
theorem x12_ra {f : Nat → Nat} {L p c : Nat} {s : St} (h : RA_ f L p s) (hp : p < L) (hc : c < 60) (hn : cF s 300 26 = nI c) : ∃ s1, RD f L p c s s1 (f_X12_readsAct s) ∧ cF s1 300 26 = nI (c + 1) := by
  have h80 := h.1
  have hu := (h.2.2.2.2 p hp).1
  have e1 := x12_to h hp
  unfold f_X12_readsAct
  rw [hn]
  by_cases hk : kd (f p) = 0
  · have hf : fo f L p = 1 := by unfold fo; rw [if_pos hk]
    rw [if_pos hk] at e1
    rw [bi_nd e1, gd_n (by omega) (by omega), gd_n (by omega) (by omega), nI_clamp (by omega)]
    dsimp only
    rw [rAF, rAs, if_neg (by decide), rFA, hn, nI_1]
    refine ⟨_, ⟨0, rfl, ((EA_.rf c s).a (by omega)).f (Or.inr rfl), Or.inr ⟨by omega, rfl, ?_⟩⟩, rFs⟩
    rw [rFj (by omega), rFA, h.2.2.1, hf]
    rfl
  · obtain ⟨k1, k2, k3, k4, k5, k6, k7⟩ := kq_t _ hu hk
    rw [if_neg hk] at e1
    rw [bi_nd e1, gd_n (by omega) (by omega), gd_n (by omega) (by omega), nI_clamp (by omega)]
    dsimp only
    rw [rAF, rAs, if_pos (show (0 : Int32) ≤ nI (kq (f p)) from nI_le (a := 0) (by omega) (by omega)), gd_n (by omega) (by omega), rFA, rFj (by omega), hn, nI_1]
    have hh : (if nI (kq (f p)) = (2 : Int32) then (3 : Int32) else (9 : Int32)) = nI (hx (f p)) := by
      unfold hx
      by_cases e : f p = 113
      · rw [if_pos e, if_pos (show nI (kq (f p)) = 2 by rw [k4.mpr e]; rfl)]; rfl
      · rw [if_neg e, if_neg (show ¬ nI (kq (f p)) = 2 from fun x => e (k4.mp ((nI_eq (b := 2) (by omega) (by omega)).mp x)))]; rfl
    rw [hh]
    have hE : EA_ c s (sF (sA (sF s 300 10 (nI (p + 1))) 323 c (nI (kq (f p)))) 300 26 (nI (c + 1))) := (((EA_.rf c s).f (Or.inl rfl)).a (by omega)).f (Or.inr rfl)
    obtain ⟨s1, ⟨v, r1, r2, r3⟩, r4⟩ := x12_r2 (p := p) (c := c) (h.ea hE (p' := p + 1) (by omega) (by rw [rFj (by omega), rFA, rFs])) hc hu hk (by rw [rAF, rAs])
    exact ⟨s1, ⟨v, r1, hE.tr r2, r3⟩, r4.trans rFs⟩
