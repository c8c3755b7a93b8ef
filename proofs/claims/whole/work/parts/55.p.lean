/-! LAYER 2: an oyster's views by what was seen. -/
def cO (B : Bd_) (C : Lw) (o y w : Nat) : Bool := oP_ B 0 o && !decide (vl C (ee B o y w) ≤ 0)
def rsN (B : Bd_) (C : Lw) (o q : Nat) : Nat := cn (fun k => clP B C (q / 10) (q % 10) k && !decide (k = o)) B.1
def yq_ (B : Bd_) (C : Lw) (o q : Nat) (y : Bool) : Nat := rsN B C o q + (cO B C o y.toNat (q % 10)).toNat
theorem yq_le {B : Bd_} {C : Lw} {o q : Nat} {y : Bool} (W : WB B) : yq_ B C o q y ≤ 9 := by
  have h8 := W.1
  have h1 := cn_le (fun k => clP B C (q / 10) (q % 10) k && !decide (k = o)) B.1
  unfold yq_ rsN
  have : (cO B C o y.toNat (q % 10)).toNat ≤ 1 := by cases cO B C o y.toNat (q % 10) <;> decide
  omega
theorem cn_at (p : Nat → Bool) (b : Bool) (o n : Nat) : cn (fun k => if k = o then b else p k) n = cn (fun k => p k && !decide (k = o)) n + (if o < n then b.toNat else 0) := by
  induction n with
  | zero => rfl
  | succ n ih =>
    rw [cn_s, cn_s, ih]
    by_cases e : n = o
    · subst e
      rw [if_pos rfl, decide_eq_true (rfl : n = n), if_neg (Nat.lt_irrefl n), if_pos (Nat.lt_succ_self n)]
      cases b <;> cases p n <;> rfl
    · rw [if_neg e, decide_eq_false e]
      by_cases q : o < n
      · rw [if_pos q, if_pos (show o < n + 1 by omega)]
        cases p n <;> simp <;> omega
      · rw [if_neg q, if_neg (show ¬ o < n + 1 by omega)]
        cases p n <;> simp
theorem se_v {B : Bd_} {o v i l : Nat} (h : i ≠ 2) : (se_B B 2 o v).2.1 i l = B.2.1 i l := se_Bn (fun e => h e.1)
theorem ee_se (B : Bd_) (o v k y w : Nat) : ee (se_B B 2 o v) k y w = ee B k y w := by
  have hl : lP_ (se_B B 2 o v) k = lP_ B k := by
    funext l
    unfold lP_ kP_ oP_
    rw [se_v (by omega), se_v (by omega), se_v (by omega)]
  funext j
  match j with
  | 0 => exact congrArg nI (se_v (by omega))
  | 1 => rfl
  | 2 => exact congrArg nI (se_v (by omega))
  | 3 => rfl
  | 4 => show nI (cn (lP_ (se_B B 2 o v) k) B.1) = _; rw [hl]; rfl
  | 5 => exact congrArg nI (se_v (by omega))
  | j + 6 => rfl
theorem cl_se (B : Bd_) (C : Lw) (t w o v k : Nat) : clP (se_B B 2 o v) C t w k = if k = o then cO B C o (v.testBit t).toNat w else clP B C t w k := by
  unfold clP cO
  rw [ee_se]
  have ho : oP_ (se_B B 2 o v) 0 k = oP_ B 0 k := by unfold oP_; rw [se_v (by omega)]
  rw [ho]
  by_cases e : k = o
  · subst e
    rw [if_pos rfl]
    unfold yP_
    rw [se_Bs]
  · rw [if_neg e]
    unfold yP_
    rw [se_Bn (by omega)]
theorem cn_se {B : Bd_} {C : Lw} {q o v : Nat} (ho : o < B.1) : cn (clP (se_B B 2 o v) C (q / 10) (q % 10)) B.1 = yq_ B C o q (v.testBit (q / 10)) := by
  rw [show clP (se_B B 2 o v) C (q / 10) (q % 10) = fun k => if k = o then cO B C o (v.testBit (q / 10)).toNat (q % 10) else clP B C (q / 10) (q % 10) k from funext (cl_se B C _ _ o v), cn_at, if_pos ho]
  rfl
theorem x0_cs {w b o y wd : Nat} {B : Bd_} {C : Lw} {χ : St} (hw : w < 22) (hb : 27 ≤ b) (W : WB B) (h : BC_ b B χ) (hC : WC C) (hL : LC_ w C χ) (ho : o < B.1) : ∃ s, f_X0_closes χ b w (nI o) (nI y) (nI wd) = some (nI (cO B C o y wd).toNat, s) ∧ SV (w + 4) χ s := by
  have h8 := W.1
  have b3 := W.b3 ho
  unfold f_X0_closes
  rw [bi_nd (x0_ha W h ho), show (1 : Int32) = nI 1 from rfl, show (0 : Int32) = nI 0 from rfl, c_eqF (by omega) (by omega) (by omega), gd_n (by omega) (by omega), nI_clamp (by omega), h.k3 ho]
  by_cases h0 : B.2.1 3 o = 0
  · obtain ⟨s, e, hs⟩ := x5_va (o := o) (y := y) (wd := wd) hw hb W h hC hL ho
    rw [c_eqT h0, bi_nd e]
    refine ⟨s, ?_, hs⟩
    unfold cO oP_
    rw [h0]
    by_cases hv : vl C (ee B o y wd) ≤ 0
    · rw [decide_eq_true hv, if_pos (show vl C (ee B o y wd) ≤ nI 0 from hv)]; rfl
    · rw [decide_eq_false hv, if_neg (show ¬ vl C (ee B o y wd) ≤ nI 0 from hv)]; rfl
  · rw [c_eqF h0 (by omega) (by omega)]
    refine ⟨χ, ?_, SV.rf _ _⟩
    unfold cO oP_
    rw [decide_eq_false (show ¬ B.2.1 3 o ≤ 0 by omega)]
    rfl
theorem x12_cb {B : Bd_} {C : Lw} {σ : St} {o v q : Nat} (W : WB B) (h : BR 306 0 B σ) (hC : WC C) (hL : LR_ C σ) (ho : o < B.1) (hv : v < 16) (hq : q < 40) : ∃ s, f_X12_closedBy σ (nI o) (nI v) (nI q) = some (nI (yq_ B C o q (v.testBit (q / 10))), s) ∧ FR 307 σ s := by
  have h8 := W.1
  obtain ⟨s1, e1, k1, k2, k3, k4, k5⟩ := x12_cp (σ := σ)
  have hB1 : BR 307 0 B s1 := h.mv W (by rw [k1]) (k4 305 (by omega)) (fun i hi => by rw [Nat.zero_add]; exact k5 i hi)
  have hB2 := hB1.se (p := 8 * 1 + o) (j := 1) (k := o) (x := v) W rfl (by omega) ho (by omega)
  have W2 : WB (se_B B (1 + 1) o v) := W.se ⟨by omega, by omega, by omega, by omega, by omega⟩
  have hL2 : LR_ C (sA s1 307 (8 * 1 + o) (nI v)) := hL.cg (by rw [rFA, k1]) ((rAp (by omega)).trans (k4 315 (by omega)))
  obtain ⟨s2, e2, h2⟩ := x12_cl (r := 307) (t := q / 10) (wd := q % 10) ⟨by omega, by omega⟩ W2 hB2 hC hL2 (by omega)
  refine ⟨s2, ?_, h2.1.trans (rFA.trans k1), h2.2.1.trans (rLA.trans k2), fun p a b c => (h2.2.2.2 p b c).trans ((rAp a).trans (k4 p a))⟩
  unfold f_X12_closedBy
  rw [bi_nd e1]
  simp (disch := omega) only [li_8, li_10, gd_n, nI_clamp, nI_add, pk_div, pk_rn]
  rw [show 8 + o = 8 * 1 + o by omega, bi_nd e2, bi_nd (bc_bi _ (by show B.1 ≤ 16; omega))]
  show some (nI (cn (clP (se_B B 2 o v) C (q / 10) (q % 10)) B.1), s2) = _
  rw [cn_se ho]
theorem wy_ : ∀ t, t < 4 → f_X10_withYes (nI t) = some (nI (bi (fun v => v.testBit t) 16)) := by decide +kernel
theorem vk_0 {c r y : Nat} (hc : c < 100) (hr : r < 100) (hy : y < 100) : (nI y = nI c - nI r) ↔ r + y = c := by
  constructor
  · intro e
    have e2 : nI (r + y) = nI c := by
      rw [← nI_add, e, Int32.sub_eq_add_neg, Int32.add_comm (nI c), ← Int32.add_assoc, ← Int32.sub_eq_add_neg, Int32.sub_self, Int32.zero_add]
    exact (nI_eq (by omega) (by omega)).mp e2
  · rintro rfl
    rw [pk_sub (by omega), Nat.add_sub_cancel_left]
theorem vk_1 {c r y : Nat} {V M : Nat → Bool} {d : Decidable (nI y = nI c - nI r)} (hc : c < 100) (hr : r < 100) (hy : y < 100) : (@ite _ (nI y = nI c - nI r) d (nI (bi V 16)) (nI (bi V 16) &&& (nI (bi M 16) ^^^ -nI 1))) = nI (bi (fun v => V v && (decide (r + y = c) || !M v)) 16) := by
  by_cases e : r + y = c
  · rw [if_pos ((vk_0 hc hr hy).mpr e), decide_eq_true e]
    congr 2; funext v; simp
  · rw [if_neg (fun k => e ((vk_0 hc hr hy).mp k)), decide_eq_false e, bi_ntn V M (by omega) (by omega)]
    congr 1
theorem vk_2 {c r y : Nat} {V M : Nat → Bool} {d : Decidable (nI y = nI c - nI r)} (hc : c < 100) (hr : r < 100) (hy : y < 100) : (@ite _ (nI y = nI c - nI r) d (nI (bi V 16)) (nI (bi V 16) &&& nI (bi M 16))) = nI (bi (fun v => V v && (decide (r + y = c) || M v)) 16) := by
  by_cases e : r + y = c
  · rw [if_pos ((vk_0 hc hr hy).mpr e), decide_eq_true e]
    congr 2; funext v; simp
  · rw [if_neg (fun k => e ((vk_0 hc hr hy).mp k)), decide_eq_false e, nI_an, bi_and]
    congr 2
theorem tn_b (b : Bool) {d : Decidable (nI b.toNat = nI 0)} : (@ite _ (nI b.toNat = nI 0) d (nI 0) (nI 1)) = nI b.toNat := by
  cases b
  · exact if_pos rfl
  · exact if_neg (fun e => absurd e (by decide : ¬ nI 1 = nI 0))
theorem x7_st {B : Bd_} {C : Lw} {χ : St} {w o i s q c : Nat} {V : Nat → Bool} (hw : w < 22) (hw2 : 16 ≤ w) (W : WB B) (h : BC_ 32 B χ) (hC : WC C) (hL : LC_ w C χ) (ho : o < B.1) (hi : i < s) (hs10 : s ≤ 10) (hq : q < 40) (hc : c ≤ 8) (g3 : cF χ 9 3 = nI s) (g10 : cA χ 10 i = nI (q / 10)) (g11 : cA χ 11 i = nI (q % 10)) (g12 : cA χ 12 i = nI c) :
    ∃ χ', f_X7_viewsOf_s7 32 w χ (nI o) (nI (bi V 16)) (nI i) = some (.inl (nI (bi (fun v => V v && decide (yq_ B C o q (v.testBit (q / 10)) = c)) 16), nI (i + 1), χ')) ∧ SV (w + 4) χ χ' := by
  have h8 := W.1
  obtain ⟨s1, e1, h1⟩ := x0_cl (t := q / 10) (wd := q % 10) hw (by omega) W h hC hL (by omega)
  have hB1 : BC_ 32 B s1 := h.cg (by rw [h1.1]) (fun j _ _ => h1.2.2.2 _ (by omega))
  have hL1 : LC_ w C s1 := hL.cg (by rw [h1.1]) (h1.2.2.2 _ (by omega))
  obtain ⟨s2, e2, h2⟩ := x0_cs (o := o) (y := 1) (wd := q % 10) hw (by omega) W hB1 hC hL1 ho
  have hB2 : BC_ 32 B s2 := hB1.cg (by rw [h2.1]) (fun j _ _ => h2.2.2.2 _ (by omega))
  have hL2 : LC_ w C s2 := hL1.cg (by rw [h2.1]) (h2.2.2.2 _ (by omega))
  obtain ⟨s3, e3, h3⟩ := x0_cs (o := o) (y := 0) (wd := q % 10) hw (by omega) W hB2 hC hL2 ho
  have a10 : cA s1 10 i = nI (q / 10) := by rw [h1.2.2.2 10 (by omega)]; exact g10
  have a11 : cA s1 11 i = nI (q % 10) := by rw [h1.2.2.2 11 (by omega)]; exact g11
  have a12 : cA s1 12 i = nI c := by rw [h1.2.2.2 12 (by omega)]; exact g12
  have b11 : cA s2 11 i = nI (q % 10) := by rw [h2.2.2.2 11 (by omega)]; exact a11
  have hr : rsN B C o q ≤ B.1 := cn_le _ _
  have hy : ∀ b : Bool, b.toNat ≤ 1 := fun b => by cases b <;> decide
  refine ⟨s3, ?_, h1.tr (h2.tr h3)⟩
  unfold f_X7_viewsOf_s7 f_X7_viewsOf_j92_7 f_X7_viewsOf_j106_7 f_X7_viewsOf_j128_7 f_X7_viewsOf_j140_7
  rw [g3, if_neg (nI_ge hi (by omega))]
  simp (disch := omega) only [li_0, li_1, gd_n, nI_clamp, g10, g11, e1, ob_s, sh_1, bi_x1, bc_bi, a10, a11, a12, wy_, e2, b11, e3, tn_b, nI_add]
  have hy1 := hy (cO B C o 1 (q % 10))
  have hy0 := hy (cO B C o 0 (q % 10))
  rw [show cn (fun i => clP B C (q / 10) (q % 10) i && !decide (i = o)) B.1 = rsN B C o q from rfl, vk_1 (by omega) (by omega) (by omega), vk_2 (by omega) (by omega) (by omega)]
  congr 5
  funext v
  unfold yq_
  cases v.testBit (q / 10) <;> simp [Bool.and_assoc]
theorem al_F {p : Nat → Bool} {k : Nat} (h : al_ p k = false) : ∀ n, k ≤ n → al_ p n = false := by
  intro n
  induction n with
  | zero => intro hn; rw [← Nat.le_zero.mp hn]; exact h
  | succ n ih =>
    intro hn
    by_cases e : k = n + 1
    · rw [← e]; exact h
    · rw [al_st, ih (by omega), Bool.and_false]
def oV (B : Bd_) (C : Lw) (o : Nat) (σ : St) (v i : Nat) : Bool := decide (yq_ B C o (cA σ 328 i).toNatClampNeg (v.testBit ((cA σ 328 i).toNatClampNeg / 10)) = (cA σ 329 i).toNatClampNeg)
theorem x12_iv {B : Bd_} {C : Lw} {σ : St} {o v s : Nat} {ac : Int32} (W : WB B) (h : BR 306 0 B σ) (hC : WC C) (hL : LR_ C σ) (ho : o < B.1) (hv : v < 16) (hs : s ≤ 10) (g : cF σ 300 27 = nI s) (hf : ∀ i, i < s → (cA σ 328 i).toNatClampNeg < 40 ∧ (cA σ 329 i).toNatClampNeg ≤ 8 ∧ cA σ 328 i = nI (cA σ 328 i).toNatClampNeg ∧ cA σ 329 i = nI (cA σ 329 i).toNatClampNeg) {τ : St} (ht : FR 307 σ τ) :
    ∃ x, iter (fun z : Int32 × Int32 × St => f_X12_viewsOf_s16 z.2.2 (nI o) ac (nI v) z.1 z.2.1) FU ((1 : Int32), (0 : Int32), τ) = some x ∧ x.1 = nI (al_ (oV B C o σ v) s).toNat ∧ FR 307 σ x.2 := by
  have hq : ∀ i s, i < s → s ≤ 10 → ¬ nI s ≤ nI i := fun i s h1 h2 => nI_ge h1 (by omega)
  refine it_inx (fun k z => z.1 = nI (al_ (oV B C o σ v) k).toNat ∧ z.2.1 = nI k ∧ FR 307 σ z.2.2) _ s (by omega) ⟨rfl, rfl, ht⟩ (fun k z hk hI => ?_)
  obtain ⟨z1, z2, s1⟩ := z
  obtain ⟨rfl, rfl, h1⟩ := hI
  dsimp only at h1
  show (_ ∧ ∃ s', f_X12_viewsOf_s16 s1 (nI o) ac (nI v) (nI (al_ (oV B C o σ v) k).toNat) (nI k) = some (.inl s') ∧ _) ∨ ∃ x, f_X12_viewsOf_s16 s1 (nI o) ac (nI v) (nI (al_ (oV B C o σ v) k).toNat) (nI k) = some (.inr x) ∧ _
  unfold f_X12_viewsOf_s16
  rw [h1.1, g]
  rcases Nat.lt_or_ge k s with hk2 | hk2
  · rw [if_neg (hq k s hk2 hs)]
    cases hal : al_ (oV B C o σ v) k with
    | false =>
      right
      rw [if_pos (show nI (false).toNat = 0 from rfl)]
      exact ⟨_, rfl, by rw [al_F hal s (by omega)], h1⟩
    | true =>
      left
      refine ⟨hk2, ?_⟩
      obtain ⟨f1, f2, f3, f4⟩ := hf k hk2
      obtain ⟨s2, e2, h2⟩ := x12_cb (o := o) (v := v) (q := (cA σ 328 k).toNatClampNeg) W (h.cg (by rw [h1.1]) (h1.2.2 305 (by omega) (by omega) (by omega)) (h1.2.2 306 (by omega) (by omega) (by omega))) hC (hL.cg (by rw [h1.1]) (h1.2.2 315 (by omega) (by omega) (by omega))) ho hv f1
      have y9 := yq_le (C := C) (o := o) (q := (cA σ 328 k).toNatClampNeg) (y := v.testBit ((cA σ 328 k).toNatClampNeg / 10)) W
      rw [if_neg (show ¬ nI (true).toNat = 0 by decide), gd_n (by omega) (by omega), nI_clamp (by omega), h1.2.2 328 (by omega) (by omega) (by omega), f3, bi_nd e2, gd_n (by omega) (by omega)]
      dsimp only
      rw [h2.2.2 329 (by omega) (by omega) (by omega), h1.2.2 329 (by omega) (by omega) (by omega), f4]
      unfold f_X12_viewsOf_j58_16
      refine ⟨_, rfl, ?_, by dsimp only; rw [nI_1], h1.tr h2⟩
      dsimp only
      rw [al_st, hal, Bool.and_true]
      unfold oV
      by_cases e : yq_ B C o (cA σ 328 k).toNatClampNeg (v.testBit ((cA σ 328 k).toNatClampNeg / 10)) = (cA σ 329 k).toNatClampNeg
      · rw [decide_eq_true e, if_pos (by rw [e])]; rfl
      · rw [decide_eq_false e, if_neg (fun x => e ((nI_eq (by omega) (by omega)).mp x))]; rfl
  · right
    have e : k = s := by omega
    subst e
    rw [if_pos (nI_le (Nat.le_refl _) (by omega))]
    exact ⟨_, rfl, rfl, h1⟩
theorem x12_vo {B : Bd_} {C : Lw} {σ : St} {o s : Nat} (W : WB B) (h : BR 306 0 B σ) (hC : WC C) (hL : LR_ C σ) (ho : o < B.1) (hs : s ≤ 10) (g : cF σ 300 27 = nI s) (hf : ∀ i, i < s → (cA σ 328 i).toNatClampNeg < 40 ∧ (cA σ 329 i).toNatClampNeg ≤ 8 ∧ cA σ 328 i = nI (cA σ 328 i).toNatClampNeg ∧ cA σ 329 i = nI (cA σ 329 i).toNatClampNeg) :
    ∃ s1, f_X12_viewsOf σ (nI o) = some (nI (bi (fun v => al_ (oV B C o σ v) s) 16), s1) ∧ FR 307 σ s1 := by
  obtain ⟨x, e, hx1, hx2⟩ := it_inv (step := fun z : Int32 × Int32 × St => f_X12_viewsOf_s4 z.2.2 (nI o) z.1 z.2.1) (s := ((0 : Int32), (0 : Int32), σ)) (fun k z => z.1 = nI (bi (fun v => al_ (oV B C o σ v) s) k) ∧ z.2.1 = nI k ∧ FR 307 σ z.2.2) (fun x => x.1 = nI (bi (fun v => al_ (oV B C o σ v) s) 16) ∧ FR 307 σ x.2) 16 (by omega) ⟨rfl, rfl, FR.rf _ _⟩
    (fun k z hk hI => by
      obtain ⟨z1, z2, s1⟩ := z
      obtain ⟨rfl, rfl, h1⟩ := hI
      dsimp only at h1
      obtain ⟨x, e1, hx1, hx2⟩ := x12_iv (ac := nI (bi (fun v => al_ (oV B C o σ v) s) k)) W h hC hL ho hk hs g hf h1
      obtain ⟨x1, x2⟩ := x
      dsimp only at hx1 hx2
      subst hx1
      show ∃ s', f_X12_viewsOf_s4 s1 (nI o) (nI (bi (fun v => al_ (oV B C o σ v) s) k)) (nI k) = some (.inl s') ∧ _
      unfold f_X12_viewsOf_s4
      rw [if_neg (show ¬ (16 : Int32) ≤ nI k from nI_ge (b := 16) hk (by omega)), bi_nd e1]
      unfold f_X12_viewsOf_j66_4 f_X12_viewsOf_j79_4
      refine ⟨_, rfl, ?_, by dsimp only; rw [nI_1], hx2⟩
      dsimp only
      cases hal : al_ (oV B C o σ k) s with
      | false => rw [if_pos (show nI (false).toNat = 0 from rfl), show (0 : Int32) = nI 0 from rfl, bi_F0 (p := fun v => al_ (oV B C o σ v) s) (by rw [hal]; decide)]
      | true => rw [if_neg (show ¬ nI (true).toNat = 0 by decide), show (1 : Int32) = nI 1 from rfl, sh_1 k (by omega), bi_T (p := fun v => al_ (oV B C o σ v) s) hal])
    (fun z hI => by
      obtain ⟨z1, z2, s1⟩ := z
      obtain ⟨rfl, rfl, h1⟩ := hI
      dsimp only at h1
      refine ⟨(nI (bi (fun v => al_ (oV B C o σ v) s) 16), s1), ?_, rfl, h1⟩
      show f_X12_viewsOf_s4 s1 (nI o) (nI (bi (fun v => al_ (oV B C o σ v) s) 16)) (nI 16) = _
      unfold f_X12_viewsOf_s4
      rw [if_pos (by decide)])
  obtain ⟨x1, x2⟩ := x
  dsimp only at hx1 hx2
  subst hx1
  refine ⟨x2, ?_, hx2⟩
  unfold f_X12_viewsOf
  rw [bi_nd e]
theorem rl_vo {B : Bd_} {T : Nat × (Nat → Nat)} {m : Nat} {C : Lw} {χ σ : St} (h : Rl_ B T m C χ σ) {o : Nat} (ho : o < B.1) : ∃ V χ' σ', f_X7_viewsOf χ 32 (cW χ).1 (nI o) = some (nI (bi V 16), χ') ∧ f_X12_viewsOf σ (nI o) = some (nI (bi V 16), σ') ∧ Rl_ B T m C χ' σ' := by
  have hw := h.L.w
  obtain ⟨s, hs, s1, s2, s3⟩ := h.S
  have hf : ∀ i, i < s → (cA σ 328 i).toNatClampNeg < 40 ∧ (cA σ 329 i).toNatClampNeg ≤ 8 ∧ cA σ 328 i = nI (cA σ 328 i).toNatClampNeg ∧ cA σ 329 i = nI (cA σ 329 i).toNatClampNeg := by
    intro i hi
    obtain ⟨t, w, c, k1, k2, k3, k4, k5, k6, k7, k8⟩ := s3 i hi
    rw [k7, k8, nI_clamp (by omega), nI_clamp (by omega)]
    exact ⟨by omega, k3, rfl, rfl⟩
  have hg : ∀ i, i < s → cA χ 10 i = nI ((cA σ 328 i).toNatClampNeg / 10) ∧ cA χ 11 i = nI ((cA σ 328 i).toNatClampNeg % 10) ∧ cA χ 12 i = nI (cA σ 329 i).toNatClampNeg := by
    intro i hi
    obtain ⟨t, w, c, k1, k2, k3, k4, k5, k6, k7, k8⟩ := s3 i hi
    rw [k7, k8, nI_clamp (by omega), nI_clamp (by omega), k4, k5, k6, show (10 * t + w) / 10 = t by omega, show (10 * t + w) % 10 = w by omega]
    exact ⟨rfl, rfl, rfl⟩
  obtain ⟨σ', e2, h2⟩ := x12_vo h.W h.r h.L.2.1 h.L.2.2.2 ho hs s2 hf
  obtain ⟨x, e1, hx1, hx2⟩ := it_inv (step := fun z : Int32 × Int32 × St => f_X7_viewsOf_s7 32 (cW χ).1 z.2.2 (nI o) z.1 z.2.1) (s := ((65535 : Int32), (0 : Int32), χ)) (fun k z => z.1 = nI (bi (fun v => al_ (oV B C o σ v) k) 16) ∧ z.2.1 = nI k ∧ SV ((cW χ).1 + 4) χ z.2.2) (fun x => x.1 = nI (bi (fun v => al_ (oV B C o σ v) s) 16) ∧ SV ((cW χ).1 + 4) χ x.2) s (by omega) ⟨by show (65535 : Int32) = nI (bi (fun v => true) 16); rw [← bi_n1]; rfl, rfl, SV.rf _ _⟩
    (fun k z hk hI => by
      obtain ⟨z1, z2, s'⟩ := z
      obtain ⟨rfl, rfl, h1⟩ := hI
      dsimp only at h1
      obtain ⟨f1, f2, f3, f4⟩ := hf k hk
      obtain ⟨g1, g2, g3⟩ := hg k hk
      obtain ⟨s'', e, h3⟩ := x7_st (o := o) (i := k) (s := s) (V := fun v => al_ (oV B C o σ v) k) (w := (cW χ).1) (χ := s') (by omega) (by omega) h.W (h.b.cg (by rw [h1.1]) (fun j _ _ => h1.2.2.2 _ (by omega))) h.L.2.1 (h.L.2.2.1.cg (by rw [h1.1]) (h1.2.2.2 _ (by omega))) ho hk hs f1 f2 (by rw [h1.1]; exact s1) (by rw [h1.2.2.2 10 (by omega)]; exact g1) (by rw [h1.2.2.2 11 (by omega)]; exact g2) (by rw [h1.2.2.2 12 (by omega)]; exact g3)
      refine ⟨_, e, ?_, rfl, h1.tr h3⟩
      dsimp only
      congr 2
      funext v
      rw [al_st, Bool.and_comm]
      rfl)
    (fun z hI => by
      obtain ⟨z1, z2, s'⟩ := z
      obtain ⟨rfl, rfl, h1⟩ := hI
      dsimp only at h1
      refine ⟨(nI (bi (fun v => al_ (oV B C o σ v) s) 16), s'), ?_, rfl, h1⟩
      show f_X7_viewsOf_s7 32 (cW χ).1 s' (nI o) _ (nI s) = _
      unfold f_X7_viewsOf_s7
      rw [h1.1, s1, if_pos (nI_le (Nat.le_refl _) (by omega))])
  obtain ⟨x1, x2⟩ := x
  dsimp only at hx1 hx2
  subst hx1
  refine ⟨_, x2, σ', ?_, e2, h.sc (sc_SV h.L hx2) (sr_FR h2)⟩
  unfold f_X7_viewsOf
  rw [bi_nd e1]
