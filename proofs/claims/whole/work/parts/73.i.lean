/-! LAYER 2: the class takes a sign as the machine does. -/
def SK_ (χ : St) (w : Nat) : List Nat → Prop
  | [] => True
  | a :: s => cA χ (w + 2) s.length = nI (ws_ a) ∧ SK_ χ w s
theorem SK_.cg {χ χ' : St} {w : Nat} : ∀ {s : List Nat}, SK_ χ w s → (∀ i, i < s.length → cA χ' (w + 2) i = cA χ (w + 2) i) → SK_ χ' w s
  | [], _, _ => trivial
  | a :: s, h, k => ⟨(k s.length (Nat.lt_succ_self _)).trans h.1, SK_.cg h.2 (fun i hi => k i (Nat.lt_succ_of_lt hi))⟩
def CR_ (w : Nat) (o s : List Nat) (χ : St) : Prop := cF χ w 1 = nI o.length ∧ (∀ i, i < o.length → cA χ (w + 1) i = nI (en_ (o.getD i 0))) ∧ cF χ w 3 = nI s.length ∧ SK_ χ w s
def DR_ (w n : Nat) (m : Nat → Bool) (d : Nat) (b : Bool) (χ : St) : Prop := cF χ w 5 = nI n ∧ (∀ i, i ≤ n → cA χ (w + 3) i = nI (m i).toNat) ∧ cF χ w 6 = nI d ∧ cF χ w 7 = nI b.toNat
/-- the law's own cells alone -/
def LF_ (w : Nat) (χ χ' : St) : Prop := cL χ' = cL χ ∧ cW χ' = cW χ ∧ (∀ p, p ≠ w → cF χ' p = cF χ p) ∧ ∀ p, p ≠ w + 1 → p ≠ w + 2 → p ≠ w + 3 → cA χ' p = cA χ p
def RF_ (w : Nat) (χ χ' : St) : Prop := cL χ' = cL χ ∧ cW χ' = cW χ ∧ (∀ p, p ≠ w → cF χ' p = cF χ p) ∧ (∀ j, j ≠ 1 → j ≠ 3 → cF χ' w j = cF χ w j) ∧ ∀ p, p ≠ w + 1 → p ≠ w + 2 → cA χ' p = cA χ p
theorem LF_.rf (w : Nat) (χ : St) : LF_ w χ χ := ⟨rfl, rfl, fun _ _ => rfl, fun _ _ _ _ => rfl⟩
theorem RF_.rf (w : Nat) (χ : St) : RF_ w χ χ := ⟨rfl, rfl, fun _ _ => rfl, fun _ _ _ => rfl, fun _ _ _ => rfl⟩
theorem LF_.tr {w : Nat} {a b c : St} (h : LF_ w a b) (k : LF_ w b c) : LF_ w a c := ⟨k.1.trans h.1, k.2.1.trans h.2.1, fun p hp => (k.2.2.1 p hp).trans (h.2.2.1 p hp), fun p x y z => (k.2.2.2 p x y z).trans (h.2.2.2 p x y z)⟩
theorem RF_.tr {w : Nat} {a b c : St} (h : RF_ w a b) (k : RF_ w b c) : RF_ w a c := ⟨k.1.trans h.1, k.2.1.trans h.2.1, fun p hp => (k.2.2.1 p hp).trans (h.2.2.1 p hp), fun j x y => (k.2.2.2.1 j x y).trans (h.2.2.2.1 j x y), fun p x y => (k.2.2.2.2 p x y).trans (h.2.2.2.2 p x y)⟩
theorem RF_.lf {w : Nat} {a b : St} (h : RF_ w a b) : LF_ w a b := ⟨h.1, h.2.1, h.2.2.1, fun p x y _ => h.2.2.2.2 p x y⟩
theorem LF_.sF {w j : Nat} {χ : St} {x : Int32} : LF_ w χ (sF χ w j x) := ⟨rfl, rfl, fun _ hp => rFp hp, fun _ _ _ _ => rfl⟩
theorem DR_.rf {w n d : Nat} {m : Nat → Bool} {b : Bool} {χ χ' : St} (h : DR_ w n m d b χ) (k : RF_ w χ χ') : DR_ w n m d b χ' := ⟨(k.2.2.2.1 5 (by omega) (by omega)).trans h.1, fun i hi => by rw [k.2.2.2.2 (w + 3) (by omega) (by omega)]; exact h.2.1 i hi, (k.2.2.2.1 6 (by omega) (by omega)).trans h.2.2.1, (k.2.2.2.1 7 (by omega) (by omega)).trans h.2.2.2⟩
/-- fields 5, 6, 7 and the row of comparisons don't touch code and stack -/
theorem CR_.sF {w j : Nat} {o s : List Nat} {χ : St} {x : Int32} (h : CR_ w o s χ) (hj : j ≠ 1 ∧ j ≠ 3) : CR_ w o s (sF χ w j x) := ⟨(rFj (by omega)).trans h.1, h.2.1, (rFj (by omega)).trans h.2.2.1, h.2.2.2.cg (fun _ _ => rfl)⟩
theorem CR_.sA {w i : Nat} {o s : List Nat} {χ : St} {x : Int32} (h : CR_ w o s χ) : CR_ w o s (sA χ (w + 3) i x) := ⟨h.1, fun j hj => by rw [rAp (by omega)]; exact h.2.1 j hj, h.2.2.1, h.2.2.2.cg (fun _ _ => by rw [rAp (by omega)])⟩
theorem x5_em {w v : Nat} {o s : List Nat} {χ : St} (h : CR_ w o s χ) (hn : o.length < 40) : ∃ χ', f_X5_emit χ w (nI (en_ v)) = some χ' ∧ CR_ w (o ++ [v]) s χ' ∧ RF_ w χ χ' := by
  obtain ⟨h1, h2, h3, h4⟩ := h
  refine ⟨sF (sA χ (w + 1) o.length (nI (en_ v))) w 1 (nI (o.length + 1)), ?_, ⟨?_, fun i hi => ?_, ?_, ?_⟩, rfl, rfl, fun p hp => rFp hp, fun j a b => rFj a, fun p a b => rAp a⟩
  · unfold f_X5_emit
    rw [h1, if_neg (show ¬ (40 : Int32) ≤ nI o.length from nI_ge (b := 40) hn (by omega)), gd_n (by omega) (by omega), nI_clamp (by omega), rFA, h1, nI_1]
  · rw [rFs, len1]
  · rw [len1] at hi
    rw [rAF]
    by_cases e : i = o.length
    · subst e; rw [rAs, gE_]
    · rw [rAj e, gL_ _ _ _ (by omega)]; exact h2 i (by omega)
  · rw [rFj (by omega), rFA]; exact h3
  · exact h4.cg (fun i hi => by rw [rAF, rAp (by omega)])
theorem x5_pu {w a : Nat} {o s : List Nat} {χ : St} (h : CR_ w o s χ) (hn : s.length < 40) : ∃ χ', f_X5_push χ w (nI (ws_ a)) = some χ' ∧ CR_ w o (a :: s) χ' ∧ RF_ w χ χ' := by
  obtain ⟨h1, h2, h3, h4⟩ := h
  refine ⟨sF (sA χ (w + 2) s.length (nI (ws_ a))) w 3 (nI (s.length + 1)), ?_, ⟨?_, fun i hi => ?_, ?_, ?_, ?_⟩, rfl, rfl, fun p hp => rFp hp, fun j a b => rFj b, fun p a b => rAp b⟩
  · unfold f_X5_push
    rw [h3, if_neg (show ¬ (40 : Int32) ≤ nI s.length from nI_ge (b := 40) hn (by omega)), gd_n (by omega) (by omega), nI_clamp (by omega), rFA, h3, nI_1]
  · rw [rFj (by omega), rFA]; exact h1
  · rw [rAF, rAp (by omega)]; exact h2 i hi
  · rw [rFs]; rfl
  · rw [rAF, rAs]
  · exact h4.cg (fun i hi => by rw [rAF, rAj (by omega)])
theorem x5_sn {a : Nat} (h : okS a) : f_X5_strengthOf (nI (ws_ a)) = some (nI (sn_ a)) ∧ (nI (ws_ a) = (40 : Int32) ↔ a = 40) ∧ (a ≠ 40 → (1000 : Int32) + nI (ws_ a) = nI (en_ a)) ∧ sn_ a ≤ 4 := by
  have hc : a = 40 ∨ a = 2000 ∨ a = 2001 ∨ a = 2002 ∨ a = 2003 ∨ a = 2004 ∨ a = 2005 ∨ a = 2006 ∨ a = 3000 := by unfold okS at h; omega
  rcases hc with rfl | rfl | rfl | rfl | rfl | rfl | rfl | rfl | rfl <;> decide +kernel
theorem rs_s {w q a : Nat} {o s : List Nat} {χ : St} (h : CR_ w o (a :: s) χ) (ha : okS a) (hl : o.length + (s.length + 1) ≤ 40) (hq : q ≤ 4) : (lk_ q a = true → ∃ χ', f_X5_release_s0 w χ (nI q) = some (.inl χ') ∧ CR_ w (o ++ [a]) s χ' ∧ RF_ w χ χ') ∧ (lk_ q a = false → f_X5_release_s0 w χ (nI q) = some (.inr χ)) := by
  obtain ⟨h1, h2, h3, h4, h5⟩ := h
  obtain ⟨e1, e2, e3, e4⟩ := x5_sn ha
  have h3 : cF χ w 3 = nI (s.length + 1) := h3
  unfold f_X5_release_s0 lk_
  rw [h3, nI_pred, if_neg (show ¬ nI (s.length + 1) ≤ 0 from nI_nle (by omega) (by omega)), gd_n (by omega) (by omega), nI_clamp (by omega), h4]
  by_cases c : a = 40
  · rw [if_pos (e2.mpr c), decide_eq_true c]
    exact ⟨fun x => absurd x (by simp), fun _ => rfl⟩
  rw [if_neg (fun x => c (e2.mp x)), gd_n (by omega) (by omega), bi_nd e1, decide_eq_false c]
  by_cases k : q ≤ sn_ a
  · rw [decide_eq_true k, if_neg (nI_nlt k (by omega))]
    refine ⟨fun _ => ?_, fun x => absurd x (by simp)⟩
    have hc : CR_ w o s (sF χ w 3 (nI s.length)) := ⟨(rFj (by omega)).trans h1, h2, rFs, h5.cg (fun _ _ => rfl)⟩
    obtain ⟨χ', k1, k2, k3⟩ := x5_em (v := a) hc (by omega)
    rw [rFs, gd_n (by omega) (by omega), nI_clamp (by omega), rAF, h4, e3 c, bi_nd k1]
    have hr : RF_ w χ (sF χ w 3 (nI s.length)) := ⟨rfl, rfl, fun p hp => rFp hp, fun j _ b => rFj b, fun _ _ _ => rfl⟩
    exact ⟨χ', rfl, k2, hr.tr k3⟩
  · rw [decide_eq_false k, if_pos (nI_lt (by omega) (by omega))]
    exact ⟨fun x => absurd x (by simp), fun _ => rfl⟩
theorem it_m {S X : Type} (g : S → Option (S ⊕ X)) (F : Nat) (s : S) : iter g (F + 1) s = (g s).bind (fun o => Sum.elim (fun s' => iter g F s') (fun x => some x) o) := by
  cases h : g s with
  | none => unfold iter; rw [h]; rfl
  | some o =>
    cases o with
    | inl s' => rw [it_1 F h]; rfl
    | inr x => rw [it_x F h]; rfl
theorem rl_it (χ : St) (w : Nat) (y : Int32) : f_X5_release χ w y = iter (fun z => f_X5_release_s0 w z y) (4096 + 1) χ := by
  rw [it_m]
  show _ = (f_X5_release_s0 w χ y).bind (fun o => Sum.elim (fun s' => iter (fun z => f_X5_release_s0 w z y) FU s') (fun x => some x) o)
  unfold f_X5_release
  generalize (fun z => f_X5_release_s0 w z y) = g
  unfold f_X5_release_s0 gd
  by_cases h1 : cF χ w 3 ≤ 0
  · simp [h1]
  by_cases h2 : inb (cF χ w 3 - (1 : Int32)) 40 = true
  · by_cases h3 : cA χ (w + 2) (cF χ w 3 - (1 : Int32)).toNatClampNeg = (40 : Int32)
    · simp [h1, h2, h3]
    cases f_X5_strengthOf (cA χ (w + 2) (cF χ w 3 - (1 : Int32)).toNatClampNeg) with
    | none => simp [h1, h2, h3]
    | some q3 =>
      by_cases h4 : q3 < y
      · simp [h1, h2, h3, h4]
      by_cases h5 : inb (cF (sF χ w 3 (cF χ w 3 - (1 : Int32))) w 3) 40 = true
      · cases f_X5_emit (sF χ w 3 (cF χ w 3 - (1 : Int32))) w ((1000 : Int32) + cA (sF χ w 3 (cF χ w 3 - (1 : Int32))) (w + 2) (cF (sF χ w 3 (cF χ w 3 - (1 : Int32))) w 3).toNatClampNeg) with
        | none => simp [h1, h2, h3, h4, h5]
        | some q6 => simp [h1, h2, h3, h4, h5]
      · simp [h1, h2, h3, h4, h5]
  · simp [h1, h2]
theorem x5_ri {w q : Nat} (hq : q ≤ 4) : ∀ (s o : List Nat) (χ : St) (F : Nat), s.length < F → (∀ x, x ∈ s → okS x) → o.length + s.length ≤ 40 → CR_ w o s χ → ∃ χ', iter (fun z => f_X5_release_s0 w z (nI q)) F χ = some χ' ∧ CR_ w (o ++ rp_ q s) (rk_ q s) χ' ∧ RF_ w χ χ'
  | [], o, χ, 0, hF, _, _, _ => absurd hF (Nat.not_lt_zero _)
  | [], o, χ, F + 1, _, _, _, h => by
    refine ⟨χ, it_x F ?_, by rw [show o ++ rp_ q [] = o from List.append_nil o]; exact h, RF_.rf w χ⟩
    show f_X5_release_s0 w χ (nI q) = _
    unfold f_X5_release_s0
    rw [h.2.2.1, if_pos (show nI ([] : List Nat).length ≤ 0 by decide)]
  | a :: s, o, χ, 0, hF, _, _, _ => absurd hF (Nat.not_lt_zero _)
  | a :: s, o, χ, F + 1, hF, hs, hl, h => by
    obtain ⟨k1, k2⟩ := rs_s (q := q) h (hs a List.mem_cons_self) hl hq
    rw [rp_c, rk_c]
    cases c : lk_ q a with
    | true =>
      obtain ⟨χ1, e1, h1, r1⟩ := k1 c
      obtain ⟨χ2, e2, h2, r2⟩ := x5_ri hq s (o ++ [a]) χ1 F (Nat.lt_of_succ_lt_succ hF) (fun x hx => hs x (List.mem_cons_of_mem a hx)) (by rw [len1]; rw [List.length_cons] at hl; omega) h1
      rw [if_pos rfl, if_pos rfl]
      refine ⟨χ2, (it_1 F e1).trans e2, ?_, r1.tr r2⟩
      rw [List.append_assoc] at h2
      exact h2
    | false =>
      rw [if_neg (by decide), if_neg (by decide), List.append_nil]
      exact ⟨χ, it_x F (k2 c), h, RF_.rf w χ⟩
theorem x5_rl {w q : Nat} {o s : List Nat} {χ : St} (hq : q ≤ 4) (hs : ∀ x, x ∈ s → okS x) (hl : o.length + s.length ≤ 40) (h : CR_ w o s χ) : ∃ χ', f_X5_release χ w (nI q) = some χ' ∧ CR_ w (o ++ rp_ q s) (rk_ q s) χ' ∧ RF_ w χ χ' := by
  rw [rl_it]
  exact x5_ri hq s o χ _ (by omega) hs hl h
