/-! LAYER 2: sorts, nearest, tells, jury, rules, parties. -/
/-- least bit -/
def tz_ (a : Nat) : Nat → Nat
  | 0 => 0
  | n + 1 => if a.testBit 0 = true then 0 else 1 + tz_ (a / 2) n
theorem tz_ok : al_ (fun a => a == 0 || (f_J6_numberOfTrailingZeros_0f7a4 (nI a) == some (nI (tz_ a 8)))) 256 = true := by decide +kernel
theorem tz_fi : al_ (fun a => al_ (fun i => !a.testBit i || ((a &&& (2 ^ i - 1) == 0) == (tz_ a 8 == i))) 8) 256 = true := by decide +kernel
theorem tz_lt : al_ (fun a => decide (tz_ a 8 < 16)) 256 = true := by decide +kernel
theorem y_27 (χ σ : St) (h : Rel_ χ σ) : ∃ (v : Int32) (χ1 : St) (σ1 : St), f_X11_sorts χ = some (v, χ1) ∧ f_X12_sorts σ = some (v, σ1) ∧ Rel_ χ1 σ1 := by
  obtain ⟨B, T, m, C, h⟩ := h
  have h0 := h.th
  have h8 := h.W.1
  unfold f_X11_sorts f_X12_sorts
  generalize sF σ 300 0 (0 : Int32) = σ1 at h0 ⊢
  obtain ⟨x, y, e1, e2, b, c, hb, hc, rfl, rfl⟩ := it_twn (st1 := fun z : Int32 × Int32 × Int32 => f_X11_sorts_s6 χ z.1 z.2.1 z.2.2) (st2 := fun z : Int32 × Int32 × Int32 => f_X12_sorts_s11 σ1 z.1 z.2.1 z.2.2) (s := ((0 : Int32), (0 : Int32), (0 : Int32))) (t := ((0 : Int32), (0 : Int32), (0 : Int32)))
    (fun k s u => ∃ b c, b < 256 ∧ c ≤ k ∧ s = (nI c, nI b, nI k) ∧ u = (nI b, nI c, nI k)) (fun x y => ∃ b c, b < 256 ∧ c ≤ 8 ∧ x = (nI c, nI b) ∧ y = (nI b, nI c)) B.1 (by omega) ⟨0, 0, by omega, by omega, rfl, rfl⟩
    (fun k s u hk hI => by
      obtain ⟨b, c, hb, hc, rfl, rfl⟩ := hI
      obtain ⟨v1, v2, v3⟩ := h0.v hk
      have hw := h0.wi (v := B.2.1 2 k) (by omega)
      have ha : bi (vP B (B.2.1 2 k)) B.1 < 256 := Nat.lt_of_lt_of_le (bi_lt _ _) (Nat.pow_le_pow_right (n := 2) (by omega) h8)
      have htb : (bi (vP B (B.2.1 2 k)) B.1).testBit k = true := by
        rw [bi_tb, decide_eq_true hk]
        unfold vP
        rw [decide_eq_true rfl]
        rfl
      have hfi := al_s (al_s tz_fi _ ha) k (by omega)
      have hok := al_s tz_ok _ ha
      have htl := of_decide_eq_true (al_s tz_lt _ ha)
      have b1 := pop_le b
      have b2 := pop_le (bi (vP B (B.2.1 2 k)) B.1)
      show ∃ s' t', f_X11_sorts_s6 χ (nI c) (nI b) (nI k) = some (.inl s') ∧ f_X12_sorts_s11 σ1 (nI b) (nI c) (nI k) = some (.inl t') ∧ _
      unfold f_X11_sorts_s6 f_X11_sorts_j51_6 f_X11_sorts_j76_6 f_X12_sorts_s11 f_X12_sorts_j48_11 f_X12_sorts_j73_11
      generalize bi (vP B (B.2.1 2 k)) B.1 = a at hw ha htb hfi hok htl b2
      have ha0 : a ≠ 0 := by
        intro e
        rw [e] at htb
        simp at htb
      have hok2 : f_J6_numberOfTrailingZeros_0f7a4 (nI a) = some (nI (tz_ a 8)) := by
        rw [Bool.or_eq_true] at hok
        rcases hok with q | q
        · exact absurd (eq_of_beq q) ha0
        · exact eq_of_beq q
      have hfi2 : (a &&& (2 ^ k - 1) = 0) ↔ tz_ a 8 = k := by
        rw [htb] at hfi
        have hq : (a &&& (2 ^ k - 1) == 0) = (tz_ a 8 == k) := eq_of_beq hfi
        refine ⟨fun q => ?_, fun q => ?_⟩
        · rw [q] at hq; exact eq_of_beq hq.symm
        · rw [q] at hq; exact eq_of_beq (hq.trans (beq_self_eq_true k))
      have h2k : 2 ^ k - 1 < 256 := pn_lt (by omega)
      have hand : a &&& (2 ^ k - 1) < 256 := an_lt h2k
      simp (disch := omega) only [h0.b.n, h0.r.n, v1, v2, li_0, li_1, li_8, c_leF, gd_n, nI_clamp, nI_add, hw.1, hw.2, ob_s, sh_1, hok2]
      rw [pk_sub (Nat.one_le_two_pow), nI_an]
      by_cases hf : tz_ a 8 = k
      · have hf2 := hfi2.mpr hf
        simp (disch := omega) only [c_eqT, c_eqF, if_true, ob_s, bc_16, fl_1, nI_add, c_leN, nI_sI, hf2, hf]
        refine ⟨_, _, rfl, rfl, _, _, ?_, ?_, rfl, rfl⟩
        · split <;> omega
        · omega
      · have hf2 : ¬ a &&& (2 ^ k - 1) = 0 := fun q => hf (hfi2.mp q)
        simp (disch := omega) only [c_eqT, c_eqF, if_true, ob_s, fl_0, nI_add, Nat.add_zero]
        exact ⟨_, _, rfl, rfl, _, _, hb, by omega, rfl, rfl⟩)
    (fun s u hI => by
      obtain ⟨b, c, hb, hc, rfl, rfl⟩ := hI
      refine ⟨_, _, ?_, ?_, b, c, hb, by omega, rfl, rfl⟩
      · show f_X11_sorts_s6 χ (nI c) (nI b) (nI B.1) = _
        unfold f_X11_sorts_s6
        simp (disch := omega) only [h0.b.n, c_leT]
      · show f_X12_sorts_s11 σ1 (nI b) (nI c) (nI B.1) = _
        unfold f_X12_sorts_s11
        simp (disch := omega) only [h0.r.n, c_leT])
  have h2 := rl_st h0
  rw [bi_nd e1, bi_nd e2]
  simp only [x9_s0, ob_s]
  by_cases hc0 : c = 0
  · subst hc0
    rw [if_pos (show nI 0 ≤ 0 by decide), if_pos (show nI 0 ≤ 0 by decide)]
    exact ⟨_, _, _, rfl, rfl, h2.rel⟩
  · rw [if_neg (show ¬ nI c ≤ 0 from nI_nle (by omega) (by omega)), if_neg (show ¬ nI c ≤ 0 from nI_nle (by omega) (by omega))]
    obtain ⟨χ3, σ3, e3, e4, h3⟩ := rl_ad h2 (by omega) (nI b).toInt64
    simp only [ob_s, e3, e4]
    exact ⟨_, _, _, rfl, rfl, h3.rel⟩
/-- topics that tell all apart -/
def taP (B : Bd_) (p i j : Nat) : Prop := B.2.1 2 i ^^^ B.2.1 2 j = 0 ∨ (B.2.1 2 i ^^^ B.2.1 2 j) &&& p ≠ 0
def TA (B : Bd_) (p : Nat) : Prop := ∀ i j, i < j → j < B.1 → taP B p i j
section TELLS
variable {B : Bd_} {T : Nat × (Nat → Nat)} {m : Nat} {C : Lw} {χ σ : St}
theorem Rl_.t1 (h : Rl_ B T m C χ σ) {p i : Nat} (hp : p < 16) (hi : i < B.1) : ∃ x, iter (fun z : Int32 => f_X10_areToldBy_s14 32 χ (nI p) (nI i) z) FU (nI i + (1 : Int32)) = some x ∧ ((x = .inl 0 ∧ ¬ ∀ j, i < j → j < B.1 → taP B p i j) ∨ (x = .inr () ∧ ∀ j, i < j → j < B.1 → taP B p i j)) := by
  have h8 := h.W.1
  refine it_inx (fun k z => z = nI (i + 1 + k) ∧ ∀ j, i < j → j < i + 1 + k → taP B p i j) _ (B.1 - (i + 1)) (by omega) ⟨nI_1 i, fun j h1 h2 => by omega⟩ (fun k z hk hI => ?_)
  obtain ⟨rfl, hI⟩ := hI
  show (k < B.1 - (i + 1) ∧ ∃ s', f_X10_areToldBy_s14 32 χ (nI p) (nI i) (nI (i + 1 + k)) = some (.inl s') ∧ _) ∨ ∃ x, f_X10_areToldBy_s14 32 χ (nI p) (nI i) (nI (i + 1 + k)) = some (.inr x) ∧ _
  unfold f_X10_areToldBy_s14 f_X10_areToldBy_j51_14
  by_cases hk2 : k < B.1 - (i + 1)
  · obtain ⟨v1, -, v3⟩ := h.v hi
    obtain ⟨w1, -, w3⟩ := h.v (k := i + 1 + k) (by omega)
    have hx := xr_lt v3 w3
    have hx2 : (B.2.1 2 i ^^^ B.2.1 2 (i + 1 + k)) &&& p < 16 := an_lt hp
    simp (disch := omega) only [h.b.n, li_0, li_1, c_leF, gd_n, nI_clamp, nI_add, v1, w1, nI_xo, nI_an]
    by_cases q1 : B.2.1 2 i ^^^ B.2.1 2 (i + 1 + k) = 0
    · rw [if_pos (by rw [q1])]
      refine Or.inl ⟨hk2, _, rfl, by rw [Nat.add_assoc (i + 1)], fun j h1 h2 => ?_⟩
      by_cases e : j = i + 1 + k
      · rw [e]; exact Or.inl q1
      · exact hI j h1 (by omega)
    · rw [if_neg (fun q => q1 ((nI_eq (by omega) (by omega)).mp q))]
      by_cases q2 : (B.2.1 2 i ^^^ B.2.1 2 (i + 1 + k)) &&& p = 0
      · rw [if_pos (by rw [q2])]
        refine Or.inr ⟨_, rfl, Or.inl ⟨rfl, fun q => ?_⟩⟩
        rcases q (i + 1 + k) (by omega) (by omega) with q | q
        · exact q1 q
        · exact q q2
      · rw [if_neg (fun q => q2 ((nI_eq (by omega) (by omega)).mp q))]
        refine Or.inl ⟨hk2, _, rfl, by rw [Nat.add_assoc (i + 1)], fun j h1 h2 => ?_⟩
        by_cases e : j = i + 1 + k
        · rw [e]; exact Or.inr q2
        · exact hI j h1 (by omega)
  · simp (disch := omega) only [h.b.n, c_leT]
    exact Or.inr ⟨_, rfl, Or.inr ⟨rfl, fun j h1 h2 => hI j h1 (by omega)⟩⟩
theorem Rl_.t2 (h : Rl_ B T m C χ σ) {p : Nat} (hp : p < 16) : (f_X10_areToldBy χ 32 (nI p) = some (nI 1) ∧ TA B p) ∨ (f_X10_areToldBy χ 32 (nI p) = some (nI 0) ∧ ¬ TA B p) := by
  have h8 := h.W.1
  obtain ⟨x, e, hx⟩ := it_inx (step := fun z : Int32 => f_X10_areToldBy_s2 32 χ (nI p) z) (s := (0 : Int32)) (fun k z => z = nI k ∧ ∀ i j, i < k → i < j → j < B.1 → taP B p i j) (fun x => (x = .inl 0 ∧ ¬ TA B p) ∨ (x = .inr () ∧ TA B p)) B.1 (by omega) ⟨rfl, fun i j h1 => by omega⟩ (fun k z hk hI => by
    obtain ⟨rfl, hI⟩ := hI
    show (k < B.1 ∧ ∃ s', f_X10_areToldBy_s2 32 χ (nI p) (nI k) = some (.inl s') ∧ _) ∨ ∃ x, f_X10_areToldBy_s2 32 χ (nI p) (nI k) = some (.inr x) ∧ _
    unfold f_X10_areToldBy_s2
    by_cases hk2 : k < B.1
    · obtain ⟨x, e, hx⟩ := h.t1 hp hk2
      simp (disch := omega) only [h.b.n, c_leF, bi_nd e]
      rcases hx with ⟨rfl, hx⟩ | ⟨rfl, hx⟩
      · exact Or.inr ⟨_, rfl, Or.inl ⟨rfl, fun q => hx (fun j h1 h2 => q k j h1 h2)⟩⟩
      · refine Or.inl ⟨hk2, _, rfl, by rw [nI_1], fun i j h1 h2 h3 => ?_⟩
        by_cases e : i = k
        · rw [e] at h2 ⊢; exact hx j h2 h3
        · exact hI i j (by omega) h2 h3
    · simp (disch := omega) only [h.b.n, c_leT]
      exact Or.inr ⟨_, rfl, Or.inr ⟨rfl, fun i j h1 h2 => hI i j (by omega) h1 h2⟩⟩)
  unfold f_X10_areToldBy
  rw [bi_nd e]
  rcases hx with ⟨rfl, hx⟩ | ⟨rfl, hx⟩
  · exact Or.inr ⟨rfl, hx⟩
  · exact Or.inl ⟨rfl, hx⟩
theorem Rl_.t3 (h : Rl_ B T m C χ σ) {p : Nat} (hp : p < 16) : (f_X12_tellsApart σ (nI p) = some (nI 1) ∧ TA B p) ∨ (f_X12_tellsApart σ (nI p) = some (nI 0) ∧ ¬ TA B p) := by
  have h8 := h.W.1
  obtain ⟨x, e, hx⟩ := it_inv (step := fun z : Int32 × Int32 => f_X12_tellsApart_s4 σ (nI p) z.1 z.2) (s := ((1 : Int32), (0 : Int32))) (fun k z => z.2 = nI k ∧ ((z.1 = nI 1 ∧ ∀ i j, i < j → j < k → taP B p i j) ∨ (z.1 = nI 0 ∧ ¬ ∀ i j, i < j → j < k → taP B p i j))) (fun x => (x = nI 1 ∧ TA B p) ∨ (x = nI 0 ∧ ¬ TA B p)) B.1 (by omega) ⟨rfl, Or.inl ⟨rfl, fun i j h1 h2 => by omega⟩⟩
    (fun k z hk hI => by
      obtain ⟨z1, z2⟩ := z
      obtain ⟨rfl, hI⟩ := hI
      dsimp only at hI
      obtain ⟨x, e, hx⟩ := it_inv (step := fun z : Int32 × Int32 => f_X12_tellsApart_s15 σ (nI p) (nI k) z.1 z.2) (s := (z1, (0 : Int32))) (fun q z => z.2 = nI q ∧ ((z.1 = nI 1 ∧ (∀ i j, i < j → j < k → taP B p i j) ∧ ∀ i, i < q → taP B p i k) ∨ (z.1 = nI 0 ∧ ¬ ((∀ i j, i < j → j < k → taP B p i j) ∧ ∀ i, i < q → taP B p i k)))) (fun x => (x = nI 1 ∧ (∀ i j, i < j → j < k → taP B p i j) ∧ ∀ i, i < k → taP B p i k) ∨ (x = nI 0 ∧ ¬ ((∀ i j, i < j → j < k → taP B p i j) ∧ ∀ i, i < k → taP B p i k))) k (by omega)
        ⟨rfl, by
          rcases hI with ⟨a, b⟩ | ⟨a, b⟩
          · exact Or.inl ⟨a, b, fun i hi => by omega⟩
          · exact Or.inr ⟨a, fun q => b q.1⟩⟩
        (fun q z hq hJ => by
          obtain ⟨w1, w2⟩ := z
          obtain ⟨rfl, hJ⟩ := hJ
          dsimp only at hJ
          obtain ⟨-, v1, v3⟩ := h.v hk
          obtain ⟨-, u1, u3⟩ := h.v (k := q) (by omega)
          have hx := xr_lt v3 u3
          have hx2 : (B.2.1 2 k ^^^ B.2.1 2 q) &&& p < 16 := an_lt hp
          show ∃ s', f_X12_tellsApart_s15 σ (nI p) (nI k) w1 (nI q) = some (.inl s') ∧ _
          unfold f_X12_tellsApart_s15 f_X12_tellsApart_j59_15 f_X12_tellsApart_j64_15
          rcases hJ with ⟨rfl, hJ, hJ2⟩ | ⟨rfl, hJ⟩
          · simp (disch := omega) only [li_0, li_1, li_8, c_leF, gd_n, nI_clamp, nI_add, v1, u1, nI_xo, nI_an, c_eqF]
            by_cases q1 : B.2.1 2 k ^^^ B.2.1 2 q = 0
            · rw [if_pos (by rw [q1])]
              refine ⟨_, rfl, rfl, Or.inl ⟨rfl, hJ, fun i hi => ?_⟩⟩
              by_cases e : i = q
              · rw [e]; exact Or.inl (by rw [Nat.xor_comm]; exact q1)
              · exact hJ2 i (by omega)
            · rw [if_neg (fun q => q1 ((nI_eq (by omega) (by omega)).mp q))]
              by_cases q2 : (B.2.1 2 k ^^^ B.2.1 2 q) &&& p = 0
              · rw [if_pos (by rw [q2])]
                refine ⟨_, rfl, rfl, Or.inr ⟨rfl, fun hh => ?_⟩⟩
                rcases hh.2 q (by omega) with r | r
                · exact q1 (by rw [Nat.xor_comm]; exact r)
                · exact r (by rw [Nat.xor_comm]; exact q2)
              · rw [if_neg (fun q => q2 ((nI_eq (by omega) (by omega)).mp q))]
                refine ⟨_, rfl, rfl, Or.inl ⟨rfl, hJ, fun i hi => ?_⟩⟩
                by_cases e : i = q
                · rw [e]; exact Or.inr (by rw [Nat.xor_comm]; exact q2)
                · exact hJ2 i (by omega)
          · simp (disch := omega) only [li_0, li_1, li_8, c_leF, gd_n, nI_clamp, nI_add, c_eqT, if_true]
            exact ⟨_, rfl, rfl, Or.inr ⟨rfl, fun hh => hJ ⟨hh.1, fun i hi => hh.2 i (by omega)⟩⟩⟩)
        (fun z hJ => by
          obtain ⟨w1, w2⟩ := z
          obtain ⟨rfl, hJ⟩ := hJ
          refine ⟨w1, ?_, hJ⟩
          show f_X12_tellsApart_s15 σ (nI p) (nI k) w1 (nI k) = _
          unfold f_X12_tellsApart_s15
          simp (disch := omega) only [c_leT])
      show ∃ s', f_X12_tellsApart_s4 σ (nI p) z1 (nI k) = some (.inl s') ∧ _
      unfold f_X12_tellsApart_s4
      simp (disch := omega) only [h.r.n, c_leF, bi_nd e, li_1, nI_add]
      refine ⟨_, rfl, rfl, ?_⟩
      rcases hx with ⟨rfl, h1, h2⟩ | ⟨rfl, h1⟩
      · refine Or.inl ⟨rfl, fun i j h3 h4 => ?_⟩
        by_cases e : j = k
        · rw [e] at h3 ⊢; exact h2 i h3
        · exact h1 i j h3 (by omega)
      · exact Or.inr ⟨rfl, fun hh => h1 ⟨fun i j h3 h4 => hh i j h3 (by omega), fun i hi => hh i k hi (by omega)⟩⟩)
    (fun z hI => by
      obtain ⟨z1, z2⟩ := z
      obtain ⟨rfl, hI⟩ := hI
      refine ⟨z1, ?_, hI⟩
      show f_X12_tellsApart_s4 σ (nI p) z1 (nI B.1) = _
      unfold f_X12_tellsApart_s4
      simp (disch := omega) only [h.r.n, c_leT])
  unfold f_X12_tellsApart
  rw [bi_nd e]
  rcases hx with ⟨rfl, hx⟩ | ⟨rfl, hx⟩
  · exact Or.inl ⟨gd_t nb_1, hx⟩
  · exact Or.inr ⟨gd_t nb_0, hx⟩
theorem x12_if {a b : Nat} (ha : a < 65536) (hb : b < 65536) : f_X12_isFewer (nI a) (nI b) = some (nI (decide (pop_ a < pop_ b)).toNat) := by
  have h1 := pop_le a
  have h2 := pop_le b
  unfold f_X12_isFewer
  simp (disch := omega) only [li_0, li_1, c_ltF, bc_16, ob_s]
  by_cases h : pop_ a < pop_ b
  · rw [decide_eq_true h]; simp (disch := omega) only [c_leF]; rfl
  · rw [decide_eq_false h]; simp (disch := omega) only [c_leT]; rfl
theorem x12_i0 {a : Int32} : f_X12_isFewer a (-1) = some (nI 1) := rfl
/-- the fewest, behind a search -/
theorem rl_fw (h : Rl_ B T m C χ σ) {b : Nat} (hb : b < 65536) : ∃ χ' σ', f_X9_add (sF χ 3 1 0) (nI b).toInt64 = some χ' ∧ f_X12_entersFewest σ (nI b) = some (nI (pop_ b), σ') ∧ f_J6_bitCount_0f7a4 (nI b) = some (nI (pop_ b)) ∧ Rl_ B T 1 C χ' σ' := by
  obtain ⟨χ3, σ3, e3, e4, h3⟩ := rl_ad (rl_st h) (by omega) (nI b).toInt64
  refine ⟨χ3, σ3, e3, ?_, bc_16 hb, h3⟩
  unfold f_X12_entersFewest
  rw [if_pos (nI_pos' (by omega)), bi_nd e4, bi_nd (bc_16 hb)]
end TELLS
theorem y_28 (χ σ : St) (h : Rel_ χ σ) : ∃ (v : Int32) (χ1 : St) (σ1 : St), f_X11_tells χ = some (v, χ1) ∧ f_X12_tells σ = some (v, σ1) ∧ Rel_ χ1 σ1 := by
  obtain ⟨B, T, m, C, h⟩ := h
  have h0 := h.th
  have h8 := h.W.1
  have hT : TA B 15 := fun i j h1 h2 => by
    have v1 := h.W.b2 (k := i) (by omega)
    have v2 := h.W.b2 (k := j) h2
    have hx := xr_lt v1 v2
    by_cases q : B.2.1 2 i ^^^ B.2.1 2 j = 0
    · exact Or.inl q
    · refine Or.inr ?_
      rw [show (15 : Nat) = 2 ^ 4 - 1 from rfl, Nat.and_two_pow_sub_one_eq_mod, Nat.mod_eq_of_lt hx]
      exact q
  unfold f_X11_tells f_X12_tells
  generalize sF σ 300 0 (0 : Int32) = σ1 at h0 ⊢
  obtain ⟨x, y, e1, e2, b, hb, rfl, rfl⟩ := it_twn (st1 := fun z : Int32 × Int32 => f_X11_tells_s5 χ z.1 z.2) (st2 := fun z : Int32 × Int32 => f_X12_tells_s9 σ1 z.1 z.2) (s := ((15 : Int32), (0 : Int32))) (t := ((-1 : Int32), (0 : Int32)))
    (fun k s u => ∃ f b, f < 16 ∧ s = (nI f, nI k) ∧ u = (b, nI k) ∧ ((k ≤ 15 ∧ b = -1 ∧ f = 15) ∨ b = nI f)) (fun x y => ∃ b, b < 16 ∧ x = nI b ∧ y = nI b) 16 (by omega) ⟨15, -1, by omega, rfl, rfl, Or.inl ⟨by omega, rfl, rfl⟩⟩
    (fun k s u hk hI => by
      obtain ⟨f, b, hf, rfl, rfl, hr⟩ := hI
      have b1 := pop_le k
      have b2 := pop_le f
      have hp15 : pop_ 15 = 4 := by decide +kernel
      have hpk : ∀ k, k < 16 → k ≠ 15 → pop_ k < 4 := by decide +kernel
      show ∃ s' t', f_X11_tells_s5 χ (nI f) (nI k) = some (.inl s') ∧ f_X12_tells_s9 σ1 b (nI k) = some (.inl t') ∧ _
      unfold f_X11_tells_s5 f_X11_tells_j35_5 f_X12_tells_s9 f_X12_tells_j36_9
      have et := h0.t2 hk
      have eu := h0.t3 hk
      by_cases hTA : TA B k
      · have et1 := (et.resolve_right (fun q => q.2 hTA)).1
        have eu1 := (eu.resolve_right (fun q => q.2 hTA)).1
        rcases hr with ⟨hk15, rfl, rfl⟩ | rfl
        · by_cases hk2 : k = 15
          · subst hk2
            simp (disch := omega) only [li_0, li_1, li_16, c_leF, bc_16, ob_s, hp15, c_leT, eu1, c_eqF, x12_i0, nI_add]
            exact ⟨_, _, rfl, rfl, _, _, by omega, rfl, rfl, Or.inr rfl⟩
          · have hl := hpk k hk hk2
            simp (disch := omega) only [li_0, li_1, li_16, c_leF, bc_16, ob_s, hp15, et1, eu1, c_eqF, x12_i0, nI_add]
            exact ⟨_, _, rfl, rfl, _, _, by omega, rfl, rfl, Or.inr rfl⟩
        · by_cases hle : pop_ f ≤ pop_ k
          · simp (disch := omega) only [li_0, li_1, li_16, c_leF, bc_16, ob_s, c_leT, eu1, c_eqF, x12_if, decide_eq_false (show ¬ pop_ k < pop_ f by omega), Bool.toNat_false, c_eqT, if_true, nI_add]
            exact ⟨_, _, rfl, rfl, _, _, hf, rfl, rfl, Or.inr rfl⟩
          · simp (disch := omega) only [li_0, li_1, li_16, c_leF, bc_16, ob_s, et1, eu1, c_eqF, x12_if, decide_eq_true (show pop_ k < pop_ f by omega), Bool.toNat_true, nI_add]
            exact ⟨_, _, rfl, rfl, _, _, hk, rfl, rfl, Or.inr rfl⟩
      · have et1 := (et.resolve_left (fun q => hTA q.2)).1
        have eu1 := (eu.resolve_left (fun q => hTA q.2)).1
        have hk2 : k ≠ 15 := fun q => hTA (by rw [q]; exact hT)
        simp (disch := omega) only [li_0, li_1, li_16, c_leF, bc_16, ob_s, et1, eu1, c_eqT, if_true, nI_add, ite_self]
        refine ⟨_, _, rfl, rfl, f, b, hf, rfl, rfl, ?_⟩
        rcases hr with ⟨q1, q2, q3⟩ | q
        · exact Or.inl ⟨by omega, q2, q3⟩
        · exact Or.inr q)
    (fun s u hI => by
      obtain ⟨f, b, hf, rfl, rfl, hr⟩ := hI
      rcases hr with ⟨q1, q2, q3⟩ | rfl
      · omega
      · exact ⟨_, _, rfl, rfl, f, hf, rfl, rfl⟩)
  obtain ⟨χ3, σ3, e3, e4, e5, h3⟩ := rl_fw h0 (b := b) (by omega)
  rw [bi_nd e1, bi_nd e2]
  simp only [x9_s0, ob_s, e3, e4, e5]
  exact ⟨_, _, _, rfl, rfl, h3.rel⟩
