/-! LAYER 2: the reference reads the lines. -/
def LD_ (f : Nat → Nat) (j : Nat) (s : St) : Prop := cA s 313 (3 * j) = nI (kt_ (f (5 * j))) ∧ cA s 313 (3 * j + 1) = nI (f (5 * j + 1) - 48) ∧ cA s 313 (3 * j + 2) = nI (lv_ f (5 * j))
theorem x12_t1 {f : Nat → Nat} {L p c : Nat} {s : St} (h : RA_ f L p s) (hc : c < 256) : f_X12_takes s (nI c) = if p < L ∧ f p = c then some (nI 1, sF s 300 10 (nI (p + 1))) else some (nI 0, sF s 300 10 (nI p)) := by
  obtain ⟨h1, h2, h3, h4, h5⟩ := h
  unfold f_X12_takes f_X12_takes_j29
  rw [h2, h3]
  by_cases q : p < L
  · obtain ⟨u, e⟩ := h5 p q
    rw [if_neg (nI_ge q (by omega)), gd_n (by omega) (by omega), nI_clamp (by omega), e]
    by_cases r : f p = c
    · rw [if_pos (by rw [r]), if_pos ⟨q, r⟩, bi_nd (show f_X12_flag (1 : Int32) = some 1 from rfl), gd_t nb_1, nI_1]; rfl
    · rw [if_neg (fun x => r ((nI_eq (by omega) (by omega)).mp x)), if_neg (fun x => r x.2), bi_nd (show f_X12_flag (0 : Int32) = some 0 from rfl), gd_t nb_0, show (0 : Int32) = nI 0 from rfl, nI_add]; rfl
  · rw [if_pos (nI_le (by omega) (by omega)), if_neg (fun x => q x.1), bi_nd (show f_X12_flag (0 : Int32) = some 0 from rfl), gd_t nb_0, show (0 : Int32) = nI 0 from rfl, nI_add]; rfl
/-- the lines read: all stand, or the first sign that can't -/
theorem x12_rl {f : Nat → Nat} {L n : Nat} {s : St} {y1 : Int32} (h : RA_ f L 0 s) (h39 : L ≤ 39) (hL0 : 0 < L) (hn : cF s 300 3 = nI n) (hn8 : n ≤ 8) (hl : cF s 300 14 = nI 0) :
    ∃ x, iter (fun z : Int32 × Int32 × St => f_X12_oysters_s29 z.2.2 y1 z.1 z.2.1) FU ((1 : Int32), (1 : Int32), s) = some x ∧ EO_ s x.2 ∧ ((∃ l, L = 5 * l + 4 ∧ n + (l + 1) ≤ 8 ∧ x.1 = nI 1 ∧ (∀ i, i < L → cs_ f (8 - n) i = true) ∧ cF x.2 300 10 = nI L ∧ cF x.2 300 14 = nI (l + 1) ∧ ∀ j, j < l + 1 → LD_ f j x.2) ∨ (∃ p, p ≤ L ∧ cF x.2 300 10 = nI p ∧ (∀ i, i < p → cs_ f (8 - n) i = true) ∧ ((p = L ∧ L % 5 ≠ 4 ∧ x.1 = nI 0) ∨ (p < L ∧ cs_ f (8 - n) p = false ∧ ∃ v : Nat, v ≤ 1 ∧ x.1 = nI v)))) := by
  refine it_inx (s := ((1 : Int32), (1 : Int32), s)) (fun (k : Nat) (z : Int32 × Int32 × St) => EO_ s z.2.2 ∧ ((z.1 = nI 1 ∧ z.2.1 = nI 1 ∧ n + k ≤ 8 ∧ (∀ i, i < 5 * k → cs_ f (8 - n) i = true) ∧ RA_ f L (5 * k) z.2.2 ∧ cF z.2.2 300 14 = nI k ∧ ∀ j, j < k → LD_ f j z.2.2) ∨ (z.2.1 = nI 0 ∧ ((∃ l, L = 5 * l + 4 ∧ n + (l + 1) ≤ 8 ∧ z.1 = nI 1 ∧ (∀ i, i < L → cs_ f (8 - n) i = true) ∧ cF z.2.2 300 10 = nI L ∧ cF z.2.2 300 14 = nI (l + 1) ∧ ∀ j, j < l + 1 → LD_ f j z.2.2) ∨ (∃ p, p ≤ L ∧ cF z.2.2 300 10 = nI p ∧ (∀ i, i < p → cs_ f (8 - n) i = true) ∧ ((p = L ∧ L % 5 ≠ 4 ∧ z.1 = nI 0) ∨ (p < L ∧ cs_ f (8 - n) p = false ∧ ∃ v : Nat, v ≤ 1 ∧ z.1 = nI v))))))) _ 10 (by omega) ⟨EO_.rf s, Or.inl ⟨rfl, rfl, by omega, fun i hi => absurd hi (by omega), h, hl, fun j hj => absurd hj (Nat.not_lt_zero _)⟩⟩ (fun k z hk hI => ?_)
  obtain ⟨z1, z2, t⟩ := z
  obtain ⟨hE, ⟨rfl, rfl, k1, k2, k3, k4, k5⟩ | ⟨rfl, hx⟩⟩ := hI
  · dsimp only at hE k3 k4 k5
    left
    obtain ⟨t1, v, r1, r2, r3, r4⟩ := x12_rd k3 ((hE.2.1 3 (by omega) (by omega)).trans hn) k4 k1
    show _ ∧ ∃ s', f_X12_oysters_s29 t y1 (nI 1) (nI 1) = some (.inl s') ∧ _
    unfold f_X12_oysters_s29 f_X12_oysters_j56_29
    rw [if_neg (show ¬ nI 1 = 0 by decide), bi_nd r1]
    dsimp only
    refine ⟨by omega, ?_⟩
    have hE1 := hE.tr r2
    rcases r4 with ⟨rfl, g1, g2, g3, g4, g5, g6, g7⟩ | ⟨rfl, d, d4, d1, d2, d3, d5⟩
    · have hR : k < 8 - n := by
        have := g2 0 (by omega)
        rw [Nat.add_zero, cs_0, Bool.and_eq_true] at this
        exact of_decide_eq_true this.1
      have hA : RA_ f L (5 * k + 4) t1 := k3.eo r2 (by omega) g3
      have ht := x12_t1 (c := 59) hA (by omega)
      have k2' : ∀ i, i < 5 * k + 4 → cs_ f (8 - n) i = true := fun i hi => by
        by_cases q : i < 5 * k
        · exact k2 i q
        · have := g2 (i - 5 * k) (by omega)
          rw [show 5 * k + (i - 5 * k) = i by omega] at this
          exact this
      have hLD : ∀ j, j < k + 1 → LD_ f j t1 := fun j hj => by
        by_cases e : j = k
        · subst e; exact ⟨g5, g6, g7⟩
        · obtain ⟨m1, m2, m3⟩ := k5 j (by omega)
          exact ⟨(r3 _ (by omega)).trans m1, (r3 _ (by omega)).trans m2, (r3 _ (by omega)).trans m3⟩
      rw [if_neg (show ¬ nI 1 = 0 by decide)]
      by_cases c4 : 5 * k + 4 < L ∧ f (5 * k + 4) = 59
      · rw [if_pos c4] at ht
        rw [bi_nd (show f_X12_takes t1 (59 : Int32) = _ from ht)]
        refine ⟨_, rfl, hE1.f (Or.inl rfl), Or.inl ⟨rfl, by dsimp only; rw [if_neg (show ¬ nI 1 = 0 by decide)]; rfl, by omega, fun i hi => ?_, ?_, (rFj (by omega)).trans g4, fun j hj => hLD j hj⟩⟩
        · by_cases q : i < 5 * k + 4
          · exact k2' i q
          · rw [show i = 5 * k + 4 by omega, cs_4, decide_eq_true c4.2]
        · exact k3.eo (r2.f (Or.inl rfl)) (by omega) (by rw [rFs]; rfl)
      · rw [if_neg c4] at ht
        rw [bi_nd (show f_X12_takes t1 (59 : Int32) = _ from ht)]
        refine ⟨_, rfl, hE1.f (Or.inl rfl), Or.inr ⟨by dsimp only; rw [if_pos (show nI 0 = 0 from rfl)]; rfl, ?_⟩⟩
        by_cases q : 5 * k + 4 = L
        · exact Or.inl ⟨k, q.symm, by omega, rfl, fun i hi => k2' i (by omega), by dsimp only; rw [rFs, q], (rFj (by omega)).trans g4, fun j hj => hLD j hj⟩
        · refine Or.inr ⟨5 * k + 4, by omega, by dsimp only; rw [rFs], k2', Or.inr ⟨by omega, ?_, 1, by omega, rfl⟩⟩
          rw [cs_4, decide_eq_false (fun x => c4 ⟨by omega, x⟩)]
    · rw [if_pos (show nI 0 = 0 from rfl)]
      refine ⟨_, rfl, hE1, Or.inr ⟨rfl, Or.inr ⟨5 * k + d, d1, d2, fun i hi => ?_, ?_⟩⟩⟩
      · by_cases q : i < 5 * k
        · exact k2 i q
        · have := d3 (i - 5 * k) (by omega)
          rw [show 5 * k + (i - 5 * k) = i by omega] at this
          exact this
      · rcases d5 with d5 | ⟨d5, d6⟩
        · exact Or.inl ⟨d5, by omega, rfl⟩
        · exact Or.inr ⟨d5, d6, 0, by omega, rfl⟩
  · right
    show ∃ x, f_X12_oysters_s29 t y1 z1 (nI 0) = some (.inr x) ∧ _
    unfold f_X12_oysters_s29
    rw [if_pos (show nI 0 = 0 from rfl)]
    exact ⟨_, rfl, hE, hx⟩
