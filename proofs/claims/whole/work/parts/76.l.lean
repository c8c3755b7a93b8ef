/-! LAYER 2: how the reference reads a rule: its helpers. -/
def RP_ (f : Nat → Nat) (L p n : Nat) (c : List Nat) (s : St) : Prop := RA_ f L p s ∧ cF s 300 12 = nI n ∧ cF s 300 18 = nI c.length ∧ ∀ i, i < c.length → cA s 316 i = nI (c.getD i 0)
def EP_ (σ s : St) : Prop := cL s = cL σ ∧ (∀ j, j ≠ 10 → j ≠ 12 → j ≠ 18 → cF s 300 j = cF σ 300 j) ∧ ∀ q, q ≠ 316 → cA s q = cA σ q
theorem EP_.rf (σ : St) : EP_ σ σ := ⟨rfl, fun _ _ _ _ => rfl, fun _ _ => rfl⟩
theorem EP_.tr {a b d : St} (h : EP_ a b) (k : EP_ b d) : EP_ a d := ⟨k.1.trans h.1, fun j x y z => (k.2.1 j x y z).trans (h.2.1 j x y z), fun q x => (k.2.2 q x).trans (h.2.2 q x)⟩
theorem EP_.f {j : Nat} {σ s : St} {x : Int32} (h : EP_ σ s) (hj : j = 10 ∨ j = 12 ∨ j = 18) : EP_ σ (sF s 300 j x) := ⟨h.1, fun i a b c => (rFj (by omega)).trans (h.2.1 i a b c), h.2.2⟩
theorem EP_.a {i : Nat} {σ s : St} {x : Int32} (h : EP_ σ s) : EP_ σ (sA s 316 i x) := ⟨h.1, h.2.1, fun q hq => (rAp hq).trans (h.2.2 q hq)⟩
theorem RA_.ep {f : Nat → Nat} {L p : Nat} {σ s : St} (h : RA_ f L p σ) (k : EP_ σ s) {p' : Nat} (hp : p' ≤ L) (e : cF s 300 10 = nI p') : RA_ f L p' s := ⟨h.1, (k.2.1 11 (by omega) (by omega) (by omega)).trans h.2.1, e, hp, fun i hi => ⟨(h.2.2.2.2 i hi).1, by rw [k.2.2 308 (by omega)]; exact (h.2.2.2.2 i hi).2⟩⟩
theorem RP_.at {f : Nat → Nat} {L p n : Nat} {c : List Nat} {s : St} (h : RP_ f L p n c s) {p' : Nat} (hp : p' ≤ L) : RP_ f L p' n c (sF s 300 10 (nI p')) := ⟨h.1.ep ((EP_.rf s).f (by omega)) hp rFs, (rFj (by omega)).trans h.2.1, (rFj (by omega)).trans h.2.2.1, h.2.2.2⟩
theorem RP_.ne {f : Nat → Nat} {L p n : Nat} {c : List Nat} {s : St} (h : RP_ f L p n c s) (n' : Nat) : RP_ f L p n' c (sF s 300 12 (nI n')) := ⟨h.1.ep ((EP_.rf s).f (by omega)) h.1.2.2.2.1 ((rFj (by omega)).trans h.1.2.2.1), rFs, (rFj (by omega)).trans h.2.2.1, h.2.2.2⟩
theorem x12_ko {f : Nat → Nat} {L p n : Nat} {c : List Nat} {s : St} (h : RP_ f L p n c s) (hc : c.length < 80) (v : Nat) : ∃ s', f_X12_codes s (nI v) = some s' ∧ RP_ f L p n (c ++ [v]) s' ∧ EP_ s s' := by
  obtain ⟨h1, h2, h3, h4⟩ := h
  have hE : EP_ s (sF (sA s 316 c.length (nI v)) 300 18 (nI (c.length + 1))) := ((EP_.rf s).a).f (by omega)
  refine ⟨_, ?_, ⟨h1.ep hE h1.2.2.2.1 ((rFj (by omega)).trans h1.2.2.1), (rFj (by omega)).trans h2, rFs.trans (by rw [len1]), fun i hi => ?_⟩, hE⟩
  · unfold f_X12_codes
    rw [h3, gd_n (by omega) (by omega), nI_clamp (by omega), rFA, h3, nI_1]
  · rw [len1] at hi
    rw [rAF]
    by_cases e : i = c.length
    · subst e; rw [rAs, gE_]
    · rw [rAj e, gL_ _ _ _ (by omega)]; exact h4 i (by omega)
/-- codes where only their number is known -/
theorem x12_cf {f : Nat → Nat} {L p c : Nat} {s : St} {x : Int32} (h1 : RA_ f L p s) (h3 : cF s 300 18 = nI c) (hc : c < 80) : ∃ s', f_X12_codes s x = some s' ∧ RA_ f L p s' ∧ cF s' 300 18 = nI (c + 1) ∧ EP_ s s' := by
  have hE : EP_ s (sF (sA s 316 c x) 300 18 (nI (c + 1))) := ((EP_.rf s).a).f (by omega)
  refine ⟨_, ?_, h1.ep hE h1.2.2.2.1 ((rFj (by omega)).trans h1.2.2.1), rFs, hE⟩
  unfold f_X12_codes
  rw [h3, gd_n (by omega) (by omega), nI_clamp (by omega), rFA, h3, nI_1]
theorem x12_tg {f : Nat → Nat} {L p : Nat} {s : St} {t m k : Nat} (h : RA_ f L p s) (hm : m ≤ 7) (ht : ∀ j, j < m → ¬ slen t ≤ nI j) (ht2 : slen t ≤ nI m) (hi : ∀ j, j < m → insb (nI j) t = true) (hp : p < L) (hk : k ≤ m) (hb : ∀ j, j < k → schr t (nI j) ≠ nI (f p)) (he : k = m ∨ schr t (nI k) = nI (f p)) : f_X12_takesOf s t = if k < m then some (nI k, sF s 300 10 (nI (p + 1))) else some (-1, s) := by
  obtain ⟨h1, h2, h3, h4, h5⟩ := h
  obtain ⟨u, e⟩ := h5 p hp
  have st : ∀ j, j < m → f_X12_takesOf_s2 t s (nI j) = if schr t (nI j) = nI (f p) then some (.inr (.inl (nI j, sF s 300 10 (nI (p + 1))))) else some (.inl (nI (j + 1), s)) := by
    intro j hj
    unfold f_X12_takesOf_s2
    rw [if_neg (ht j hj), h2, h3, if_neg (nI_ge hp (by omega)), gd_t (hi j hj), gd_n (by omega) (by omega), nI_clamp (by omega), e, nI_1, nI_1]
  unfold f_X12_takesOf
  by_cases c : k < m
  · rw [if_pos c]
    refine bi_nd (v := (Sum.inl (nI k, sF s 300 10 (nI (p + 1))) : (Int32 × St) ⊕ St)) (it_for (fun j => (nI j, s)) k (by omega) rfl (fun j hj => ?_) ?_)
    · show f_X12_takesOf_s2 t s (nI j) = _
      rw [st j (by omega), if_neg (hb j hj)]
    · show f_X12_takesOf_s2 t s (nI k) = _
      rw [st k c, if_pos (he.resolve_left (by omega))]
  · rw [if_neg c]
    have ek : k = m := by omega
    refine bi_nd (v := (Sum.inr s : (Int32 × St) ⊕ St)) (it_for (fun j => (nI j, s)) m (by omega) rfl (fun j hj => ?_) ?_)
    · show f_X12_takesOf_s2 t s (nI j) = _
      rw [st j hj, if_neg (hb j (by omega))]
    · show f_X12_takesOf_s2 t s (nI m) = _
      unfold f_X12_takesOf_s2
      rw [if_pos ht2]
theorem x12_te {f : Nat → Nat} {L p : Nat} {s : St} {t : Nat} (h : RA_ f L p s) (ht : ¬ slen t ≤ nI 0) (hp : ¬ p < L) : f_X12_takesOf s t = some (-1, s) := by
  obtain ⟨h1, h2, h3, h4, h5⟩ := h
  have e : f_X12_takesOf_s2 t s (0 : Int32) = some (.inr (.inr s)) := by
    unfold f_X12_takesOf_s2
    rw [if_neg (show ¬ slen t ≤ (0 : Int32) from ht), h2, h3, if_pos (nI_le (by omega) (by omega))]
  unfold f_X12_takesOf
  exact bi_nd (v := (Sum.inr s : (Int32 × St) ⊕ St)) (show iter (fun z : Int32 × St => f_X12_takesOf_s2 t z.2 z.1) (4095 + 1) ((0 : Int32), s) = _ from it_x 4095 e)
theorem tl_4 : ∀ c, c < 256 → (lc_ c ≠ 0 → lc_ c - 1000 < 7 ∧ schr 4 (nI (lc_ c - 1000)) = nI c ∧ (∀ j, j < lc_ c - 1000 → schr 4 (nI j) ≠ nI c) ∧ 1000 ≤ lc_ c ∧ c ≠ 40) ∧ (lc_ c = 0 → ∀ j, j < 7 → schr 4 (nI j) ≠ nI c) := by decide +kernel
theorem x12_tl {f : Nat → Nat} {L p : Nat} {s : St} (h : RA_ f L p s) : f_X12_takesOf s 4 = if p < L ∧ lc_ (f p) ≠ 0 then some (nI (lc_ (f p) - 1000), sF s 300 10 (nI (p + 1))) else some (-1, s) := by
  by_cases hp : p < L
  · obtain ⟨k1, k2⟩ := tl_4 _ (h.2.2.2.2 p hp).1
    by_cases c : lc_ (f p) = 0
    · rw [x12_tg (m := 7) (k := 7) h (by omega) (by decide) (by decide) (by decide) hp (by omega) (k2 c) (Or.inl rfl), if_neg (by omega), if_neg (fun x => x.2 c)]
    · obtain ⟨a1, a2, a3, -⟩ := k1 c
      rw [x12_tg (m := 7) (k := lc_ (f p) - 1000) h (by omega) (by decide) (by decide) (by decide) hp (by omega) a3 (Or.inr a2), if_pos a1, if_pos ⟨hp, c⟩]
  · rw [x12_te h (by decide) hp, if_neg (fun x => hp x.1)]
def br_ (r : Nat) : Nat := if r = 0 then 0 else if r = 1 then 3 else 5
def nr_ (r : Nat) : Nat := if r = 0 then 3 else 2
theorem to_r (r : Nat) (hr : r < 3) : ∀ c, c < 256 → (sn_ (oc_ c) = r + 1 → oc_ c - (2000 + br_ r) < nr_ r ∧ schr (5 + r) (nI (oc_ c - (2000 + br_ r))) = nI c ∧ (∀ j, j < oc_ c - (2000 + br_ r) → schr (5 + r) (nI j) ≠ nI c) ∧ 2000 + br_ r ≤ oc_ c) ∧ (sn_ (oc_ c) ≠ r + 1 → ∀ j, j < nr_ r → schr (5 + r) (nI j) ≠ nI c) := by
  have hc : r = 0 ∨ r = 1 ∨ r = 2 := by omega
  rcases hc with rfl | rfl | rfl <;> decide +kernel
theorem to_s : ∀ r, r < 3 → nr_ r ≤ 7 ∧ (∀ j, j < nr_ r → ¬ slen (5 + r) ≤ nI j) ∧ slen (5 + r) ≤ nI (nr_ r) ∧ (∀ j, j < nr_ r → insb (nI j) (5 + r) = true) ∧ 0 < nr_ r := by decide +kernel
theorem x12_tr {f : Nat → Nat} {L p r : Nat} {s : St} (h : RA_ f L p s) (hr : r < 3) : f_X12_takesOf s (5 + r) = if p < L ∧ sn_ (oc_ (f p)) = r + 1 then some (nI (oc_ (f p) - (2000 + br_ r)), sF s 300 10 (nI (p + 1))) else some (-1, s) := by
  obtain ⟨b1, b2, b3, b4, b5⟩ := to_s r hr
  by_cases hp : p < L
  · obtain ⟨k1, k2⟩ := to_r r hr _ (h.2.2.2.2 p hp).1
    by_cases c : sn_ (oc_ (f p)) = r + 1
    · obtain ⟨a1, a2, a3, -⟩ := k1 c
      rw [x12_tg h b1 b2 b3 b4 hp (by omega) a3 (Or.inr a2), if_pos a1, if_pos ⟨hp, c⟩]
    · rw [x12_tg h b1 b2 b3 b4 hp (Nat.le_refl _) (k2 c) (Or.inl rfl), if_neg (by omega), if_neg (fun x => c x.2)]
  · rw [x12_te h (b2 0 b5) hp, if_neg (fun x => hp x.1)]
/-- a number of at most three digits -/
theorem x12_n3 {f : Nat → Nat} {L p n : Nat} {c : List Nat} {s : St} {o st : List Nat} {nn : Nat} {m : Nat → Bool} (h : RP_ f L p n c s) (hp : p < L) (hd : dg (f p) = true) (hK : KS_ f p = some (o, st, nn, m, 0, false)) : ∃ k v s', 1 ≤ k ∧ k ≤ 3 ∧ p + k ≤ L ∧ v < 1000 ∧ f_X12_number s (3 : Int32) = some (nI v, s') ∧ RP_ f L (p + k) n c s' ∧ EP_ s s' ∧ KS_ f (p + k) = some (o ++ [v], st, nn, m, k, true) ∧ (p + k < L → dg (f (p + k)) = true → k = 3) := by
  have h80 := h.1.1
  have hid := x12_id h.1
  unfold f_X12_number
  rw [bi_nd hid, decide_eq_true hp, hd, if_neg (show ¬ nI (true && true).toNat = 0 by decide)]
  obtain ⟨x, e1, k, v, q1, q2, q3, q4, q5, q6, q7, q8, q9⟩ := it_inx (step := fun z : Int32 × Int32 × St => f_X12_number_s13 z.2.2 (3 : Int32) z.1 z.2.1) (s := ((0 : Int32), (0 : Int32), s)) (fun (k : Nat) (z : Int32 × Int32 × St) => z.2.1 = nI k ∧ ∃ v, z.1 = nI v ∧ v < 10 ^ k ∧ RP_ f L (p + k) n c z.2.2 ∧ EP_ s z.2.2 ∧ p + k ≤ L ∧ (k = 0 ∨ KS_ f (p + k) = some (o ++ [v], st, nn, m, k, true))) (fun x => ∃ k v, 1 ≤ k ∧ k ≤ 3 ∧ p + k ≤ L ∧ v < 1000 ∧ x.1 = nI v ∧ RP_ f L (p + k) n c x.2 ∧ EP_ s x.2 ∧ KS_ f (p + k) = some (o ++ [v], st, nn, m, k, true) ∧ (p + k < L → dg (f (p + k)) = true → k = 3)) 3 (by omega) ⟨rfl, 0, rfl, by omega, h, EP_.rf s, by omega, Or.inl rfl⟩
    (fun k z hk hI => by
      obtain ⟨z1, z2, t⟩ := z
      obtain ⟨rfl, v, rfl, hv, hR, hE, hl, hS⟩ := hI
      dsimp only at hR hE
      have hid2 := x12_id hR.1
      show (_ ∧ ∃ s', f_X12_number_s13 t (3 : Int32) (nI v) (nI k) = some (.inl s') ∧ _) ∨ ∃ x, f_X12_number_s13 t (3 : Int32) (nI v) (nI k) = some (.inr x) ∧ _
      unfold f_X12_number_s13
      by_cases k3 : k = 3
      · right
        subst k3
        rw [if_pos (show (3 : Int32) ≤ nI 3 by decide)]
        exact ⟨_, rfl, 3, v, by omega, by omega, hl, by omega, rfl, hR, hE, hS.resolve_left (by omega), fun _ _ => rfl⟩
      rw [if_neg (show ¬ (3 : Int32) ≤ nI k from nI_ge (b := 3) (by omega) (by omega)), bi_nd hid2]
      by_cases c1 : p + k < L ∧ dg (f (p + k)) = true
      · left
        obtain ⟨u, e⟩ := hR.1.2.2.2.2 (p + k) c1.1
        have hdd : 48 ≤ f (p + k) ∧ f (p + k) ≤ 57 := of_decide_eq_true c1.2
        rw [decide_eq_true c1.1, c1.2, if_neg (show ¬ nI (true && true).toNat = 0 by decide), hR.1.2.2.1, gd_n (by omega) (by omega), nI_clamp (by omega), e, nI_1, nI_1, show (10 : Int32) = nI 10 from rfl, pk_mul, nI_add, show (48 : Int32) = nI 48 from rfl, pk_sub (by omega)]
        refine ⟨by omega, _, rfl, rfl, 10 * v + (f (p + k) - 48), by dsimp only; rw [show 10 * v + f (p + k) - 48 = 10 * v + (f (p + k) - 48) by omega], by rw [Nat.pow_succ]; omega, hR.at (by omega), hE.f (by omega), by omega, Or.inr ?_⟩
        by_cases k0 : k = 0
        · subst k0
          have hv0 : v = 0 := by omega
          subst hv0
          rw [show p + (0 + 1) = p + 1 from rfl, KS_s hK]
          unfold tk_
          dsimp only
          rw [if_pos hd, if_neg (by decide), if_pos rfl, if_neg (by decide), show p + 0 = p from rfl, Nat.mul_zero, Nat.zero_add]
        · rw [show p + (k + 1) = p + k + 1 from rfl, KS_s (hS.resolve_left k0)]
          unfold tk_
          dsimp only
          rw [if_pos c1.2, if_neg k3, if_neg k0, dl_1, gl_1]
      · right
        have : (decide (p + k < L) && dg (f (p + k))) = false := by
          cases hd2 : dg (f (p + k))
          · simp
          · rw [decide_eq_false (fun x => c1 ⟨x, hd2⟩)]; rfl
        rw [this, if_pos (show nI (false).toNat = 0 from rfl)]
        have k0 : k ≠ 0 := fun x => by subst x; exact c1 ⟨hp, hd⟩
        have hv3 : v < 1000 := Nat.lt_of_lt_of_le hv (Nat.pow_le_pow_right (n := 10) (by omega) hk)
        exact ⟨_, rfl, k, v, by omega, hk, hl, hv3, rfl, hR, hE, hS.resolve_left k0, fun a b => absurd ⟨a, b⟩ c1⟩)
  obtain ⟨x1, x2⟩ := x
  dsimp only at q5 q6 q7
  subst q5
  exact ⟨k, v, x2, q1, q2, q3, q4, bi_nd e1, q6, q7, q8, q9⟩
