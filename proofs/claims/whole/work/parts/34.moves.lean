/-! LAYER 2: what changes a bed; copies. -/
def se_B (B : Bd_) (j k x : Nat) : Bd_ := (B.1, fun i l => if i = j ∧ l = k then x else B.2.1 i l, B.2.2.1, B.2.2.2)
theorem se_Bs {B : Bd_} {j k x : Nat} : (se_B B j k x).2.1 j k = x := if_pos ⟨rfl, rfl⟩
theorem se_Bn {B : Bd_} {j k x i l : Nat} (h : ¬ (i = j ∧ l = k)) : (se_B B j k x).2.1 i l = B.2.1 i l := if_neg h
theorem WB.se {B : Bd_} (W : WB B) {j k x : Nat} (hx : (j = 0 → x ≤ 2) ∧ (j = 1 → x ≤ 9) ∧ (j = 2 → x ≤ 15) ∧ (j = 3 → x ≤ 9) ∧ (j = 4 → x ≤ 99)) : WB (se_B B j k x) := by
  refine ⟨W.1, fun l hl => ?_⟩
  have hh := W.2 l hl
  unfold se_B
  try dsimp only
  refine ⟨?_, ?_, ?_, ?_, ?_⟩
  · split
    · rename_i e; exact hx.1 e.1.symm
    · exact hh.1
  · split
    · rename_i e; exact hx.2.1 e.1.symm
    · exact hh.2.1
  · split
    · rename_i e; exact hx.2.2.1 e.1.symm
    · exact hh.2.2.1
  · split
    · rename_i e; exact hx.2.2.2.1 e.1.symm
    · exact hh.2.2.2.1
  · split
    · rename_i e; exact hx.2.2.2.2 e.1.symm
    · exact hh.2.2.2.2
theorem BC_.se {b p j k x : Nat} {B : Bd_} {s : St} (h : BC_ b B s) (hp : p = b + 1 + j) (hj : j < 5) : BC_ b (se_B B j k x) (sA s p k (nI x)) := by
  obtain ⟨h1, h2, h3, h4⟩ := h
  have key : ∀ i, i < 5 → ∀ l, l < B.1 → cA s (b + 1 + i) l = nI (B.2.1 i l) → cA (sA s p k (nI x)) (b + 1 + i) l = nI ((se_B B j k x).2.1 i l) := by
    intro i hi l hl e
    by_cases hi2 : i = j
    · subst hi2
      rw [← hp]
      by_cases hl2 : l = k
      · subst hl2; rw [rAs, se_Bs]
      · rw [rAj hl2, se_Bn (fun q => hl2 q.2), hp]; exact e
    · rw [rAp (by omega), se_Bn (fun q => hi2 q.1)]; exact e
  refine ⟨h1, h2, h3, fun l hl => ?_⟩
  obtain ⟨a0, a1, a2, a3, a4⟩ := h4 l hl
  exact ⟨key 0 (by omega) l hl a0, key 1 (by omega) l hl a1, key 2 (by omega) l hl a2, key 3 (by omega) l hl a3, key 4 (by omega) l hl a4⟩
theorem BR.se {r p j k x : Nat} {B : Bd_} {s : St} (h : BR r 0 B s) (W : WB B) (hp : p = 8 * j + k) (hj : j < 4) (hk : k < B.1) (hr : r ≠ 305) : BR r 0 (se_B B (j + 1) k x) (sA s r p (nI x)) := by
  have h8 := W.1
  obtain ⟨h1, h2, h3, h4, h5⟩ := h
  have key : ∀ i q l, l < B.1 → q = 8 * i + l → cA s r q = nI (B.2.1 (i + 1) l) → cA (sA s r p (nI x)) r q = nI ((se_B B (j + 1) k x).2.1 (i + 1) l) := by
    intro i q l hl hq e
    by_cases hi2 : i = j ∧ l = k
    · obtain ⟨rfl, rfl⟩ := hi2
      rw [show q = p by omega, rAs, se_Bs]
    · rw [rAj (by omega), se_Bn (fun q => hi2 ⟨by omega, q.2⟩)]; exact e
  refine ⟨h1, ?_, ?_, fun l hl => ?_, fun l hl hl2 => ?_⟩
  · rw [rAj (by omega)]; exact h2
  · rw [rAj (by omega)]; exact h3
  · obtain ⟨a0, a1, a2, a3, a4⟩ := h4 l hl
    refine ⟨?_, key 0 _ l hl (by omega) a1, key 1 _ l hl (by omega) a2, key 2 _ l hl (by omega) a3, key 3 _ l hl (by omega) a4⟩
    rw [rAp (Ne.symm hr), se_Bn (fun q => by omega)]; exact a0
  · have hl3 : B.1 ≤ l := hl
    obtain ⟨a, c⟩ := h5 l hl hl2
    exact ⟨by rw [rAj (by omega)]; exact a, by rw [rAj (by omega)]; exact c⟩
/-- frames: only bed b (and place w), only row r (and scratch) -/
def FC_ (b w : Nat) (χ s : St) : Prop := cL s = cL χ ∧ cW s = cW χ ∧ (∀ p, p ≠ b → cF s p = cF χ p) ∧ ∀ p, p ≠ w → (p < b + 1 ∨ b + 5 < p) → cA s p = cA χ p
def FR (r : Nat) (σ s : St) : Prop := cF s = cF σ ∧ cL s = cL σ ∧ ∀ p, p ≠ r → p ≠ 319 → p ≠ 320 → cA s p = cA σ p
theorem FC_.rf (b w : Nat) (χ : St) : FC_ b w χ χ := ⟨rfl, rfl, fun _ _ => rfl, fun _ _ _ => rfl⟩
theorem FC_.tr {b w : Nat} {x y z : St} (h : FC_ b w x y) (k : FC_ b w y z) : FC_ b w x z := ⟨k.1.trans h.1, k.2.1.trans h.2.1, fun p hp => (k.2.2.1 p hp).trans (h.2.2.1 p hp), fun p hp hq => (k.2.2.2 p hp hq).trans (h.2.2.2 p hp hq)⟩
theorem FC_.sA {b w p i : Nat} {x : Int32} {χ s : St} (h : FC_ b w χ s) (hp : b + 1 ≤ p ∧ p ≤ b + 5) : FC_ b w χ (sA s p i x) := ⟨h.1, h.2.1, h.2.2.1, fun q hq hr => (rAp (by omega)).trans (h.2.2.2 q hq hr)⟩
theorem FC_.sF {b w i : Nat} {x : Int32} {χ s : St} (h : FC_ b w χ s) : FC_ b w χ (sF s b i x) := ⟨h.1, h.2.1, fun q hq => (rFp hq).trans (h.2.2.1 q hq), h.2.2.2⟩
theorem FC_.sV {b w : Nat} {χ s : St} (h : SV w χ s) : FC_ b w χ s := ⟨h.2.1, h.2.2.1, fun p _ => by rw [h.1], fun p hp _ => h.2.2.2 p hp⟩
theorem FR.rf (r : Nat) (σ : St) : FR r σ σ := ⟨rfl, rfl, fun _ _ _ _ => rfl⟩
theorem FR.tr {r : Nat} {x y z : St} (h : FR r x y) (k : FR r y z) : FR r x z := ⟨k.1.trans h.1, k.2.1.trans h.2.1, fun p hp hq hr => (k.2.2 p hp hq hr).trans (h.2.2 p hp hq hr)⟩
theorem FR.sA {r i : Nat} {x : Int32} {σ s : St} (h : FR r σ s) : FR r σ (sA s r i x) := ⟨h.1, h.2.1, fun q hq h1 h2 => (rAp hq).trans (h.2.2 q hq h1 h2)⟩
theorem FR.sE {r : Nat} {σ s : St} (h : SE_ σ s) : FR r σ s := ⟨h.1, h.2.1, fun p _ h1 h2 => h.2.2.2 p h1 h2⟩
theorem BC_.sV {b w : Nat} {B : Bd_} {χ s : St} (h : BC_ b B χ) (hs : SV w χ s) (hw : w < b) : BC_ b B s := h.cg (by rw [hs.1]) (fun j h1 h2 => hs.2.2.2 _ (by omega))
theorem BR.sE {r o : Nat} {B : Bd_} {σ s : St} (h : BR r o B σ) (hs : SE_ σ s) (hr : r ≠ 319 ∧ r ≠ 320) : BR r o B s := h.cg (by rw [hs.1]) (hs.2.2.2 _ (by omega) (by omega)) (hs.2.2.2 _ hr.1 hr.2)
theorem LC_.sV {w v : Nat} {C : Lw} {χ s : St} (h : LC_ w C χ) (hs : SV v χ s) (hw : w + 1 ≠ v) : LC_ w C s := h.cg (by rw [hs.1]) (hs.2.2.2 _ hw)
theorem LR_.sE {C : Lw} {σ s : St} (h : LR_ C σ) (hs : SE_ σ s) : LR_ C s := h.cg (by rw [hs.1]) (hs.2.2.2 _ (by omega) (by omega))
theorem LC_.fC {w b v : Nat} {C : Lw} {χ s : St} (h : LC_ w C χ) (hs : FC_ b v χ s) (hw : w + 1 ≠ v) (hb : w < b) : LC_ w C s := h.cg (hs.2.2.1 _ (by omega)) (hs.2.2.2 _ hw (by omega))
theorem LR_.fR {r : Nat} {C : Lw} {σ s : St} (h : LR_ C σ) (hs : FR r σ s) (hr : r ≠ 315) : LR_ C s := h.cg (by rw [hs.1]) (hs.2.2 _ (Ne.symm hr) (by omega) (by omega))
/-- a tide, or many -/
def gk (B : Bd_) (t : Nat) : Nat → Bd_
  | 0 => B
  | k + 1 => se_B (gk B t k) 3 k ((gk B t k).2.1 3 k - t)
def goB (B : Bd_) (t : Nat) : Bd_ := (B.1, (gk B t B.1).2.1, B.2.2.1 + nI t, B.2.2.2)
theorem gk_n {B : Bd_} {t : Nat} : ∀ k, (gk B t k).1 = B.1 ∧ (gk B t k).2.2 = B.2.2 := by
  intro k
  induction k with
  | zero => exact ⟨rfl, rfl⟩
  | succ k ih => exact ih
theorem gk_v {B : Bd_} {t : Nat} : ∀ k j l, (gk B t k).2.1 j l = if j = 3 ∧ l < k then B.2.1 3 l - t else B.2.1 j l := by
  intro k
  induction k with
  | zero => intro j l; rw [if_neg (by omega)]; rfl
  | succ k ih =>
    intro j l
    show (se_B (gk B t k) 3 k ((gk B t k).2.1 3 k - t)).2.1 j l = _
    by_cases h : j = 3 ∧ l = k
    · obtain ⟨rfl, rfl⟩ := h
      rw [se_Bs, ih, if_neg (by omega), if_pos ⟨rfl, by omega⟩]
    · rw [se_Bn h, ih]
      by_cases h2 : j = 3 ∧ l < k
      · rw [if_pos h2, if_pos ⟨h2.1, by omega⟩]
      · rw [if_neg h2, if_neg (by omega)]
theorem gk_w {B : Bd_} {t : Nat} (W : WB B) : ∀ k, k ≤ B.1 → WB (gk B t k) := by
  intro k
  induction k with
  | zero => intro _; exact W
  | succ k ih =>
    intro hk
    refine (ih (by omega)).se ⟨by omega, by omega, by omega, fun _ => ?_, by omega⟩
    have h1 := (ih (by omega)).b3 (k := k) (by rw [(gk_n k).1]; omega)
    omega
theorem goB_w {B : Bd_} {t : Nat} (W : WB B) : WB (goB B t) := by
  have h := gk_w (t := t) W B.1 (Nat.le_refl _)
  refine ⟨W.1, fun k hk => ?_⟩
  exact h.2 k (by rw [(gk_n _).1]; exact hk)
theorem goB_3 {B : Bd_} {t k : Nat} (hk : k < B.1) : (goB B t).2.1 3 k = B.2.1 3 k - t := by
  show (gk B t B.1).2.1 3 k = _
  rw [gk_v, if_pos ⟨rfl, hk⟩]
theorem goB_j {B : Bd_} {t j k : Nat} (hj : j ≠ 3) : (goB B t).2.1 j k = B.2.1 j k := by
  show (gk B t B.1).2.1 j k = _
  rw [gk_v, if_neg (fun h => hj h.1)]
theorem mx_0 {a t : Nat} (ha : a < 2 ^ 30) (ht : t < 2 ^ 30) : (if nI 0 < nI a - nI t then nI a - nI t else nI 0) = nI (a - t) := by
  by_cases h : t < a
  · rw [pk_sub (by omega), if_pos (nI_lt (by omega) (by omega))]
  · have e : (nI a - nI t).toInt = (a : Int) - t := pk_sub_toInt ha ht
    rw [if_neg, show a - t = 0 by omega]
    rw [Int32.lt_iff_toInt_lt, e, nI_toInt (by omega)]
    omega
theorem x0_gl {b w t : Nat} {B : Bd_} {χ : St} {q : Int32} (W : WB B) (h : BC_ b B χ) (ht : t < 2 ^ 30) : ∃ s, iter (fun z : Int32 × St => f_X0_goBy_s7 b z.2 (nI t) q z.1) FU ((0 : Int32), χ) = some s ∧ BC_ b (gk B t B.1) s ∧ FC_ b w χ s := by
  have h8 := W.1
  refine it_inv (fun k z => z.1 = nI k ∧ BC_ b (gk B t k) z.2 ∧ FC_ b w χ z.2) (fun s => BC_ b (gk B t B.1) s ∧ FC_ b w χ s) B.1 (by omega) ⟨rfl, (show BC_ b (gk B t 0) χ from h), FC_.rf _ _ _⟩ (fun k z hk hI => ?_) (fun z hI => ?_)
  · obtain ⟨z1, s⟩ := z
    obtain ⟨rfl, hB, hF⟩ := hI
    dsimp only at hB hF
    have hn : (gk B t k).1 = B.1 := (gk_n k).1
    have h3 := hB.k3 (k := k) (by omega)
    have b3 := (gk_w (t := t) W k (by omega)).b3 (k := k) (by omega)
    have hn2 := hB.n
    rw [hn] at hn2
    show ∃ s', f_X0_goBy_s7 b s (nI t) q (nI k) = some (.inl s') ∧ _
    unfold f_X0_goBy_s7
    simp (disch := omega) only [hn2, h3, li_0, li_1, c_leF, gd_n, nI_clamp, nI_add, mx_0]
    exact ⟨_, rfl, rfl, hB.se (j := 3) rfl (by omega), hF.sA (by omega)⟩
  · obtain ⟨z1, s⟩ := z
    obtain ⟨rfl, hB, hF⟩ := hI
    dsimp only at hB hF
    have hn2 := hB.n
    rw [(gk_n _).1] at hn2
    refine ⟨s, ?_, hB, hF⟩
    show f_X0_goBy_s7 b s (nI t) q (nI B.1) = _
    unfold f_X0_goBy_s7
    simp (disch := omega) only [hn2, c_leT]
theorem x0_go {b w t : Nat} {B : Bd_} {χ : St} (W : WB B) (h : BC_ b B χ) (ht : t < 2 ^ 30) : ∃ s, f_X0_goBy χ b (nI t) = some (nI (bi (fun i => oP_ (goB B t) 0 i && !oP_ B 0 i) B.1), s) ∧ BC_ b (goB B t) s ∧ FC_ b w χ s := by
  have h8 := W.1
  obtain ⟨s, e, hB, hF⟩ := x0_gl (w := w) (q := nI (bi (oP_ B 0) B.1)) W h ht
  have hB2 : BC_ b (goB B t) (sF s b 6 (cF s b 6 + nI t)) := by
    obtain ⟨h1, h2, h3, h4⟩ := hB
    have hn : (gk B t B.1).1 = B.1 := (gk_n _).1
    refine ⟨?_, ?_, ?_, fun l hl => h4 l (by rw [hn]; exact hl)⟩
    · rw [rFj (by omega), h1, hn]; rfl
    · rw [rFs, h2, (gk_n _).2]; rfl
    · rw [rFj (by omega), h3, (gk_n _).2]; rfl
  refine ⟨_, ?_, hB2, hF.sF⟩
  unfold f_X0_goBy
  rw [bi_nd (x0_op W h)]
  try dsimp only
  rw [bi_nd e]
  try dsimp only
  rw [bi_nd (x0_op (goB_w W) hB2)]
  try dsimp only
  rw [show (-1 : Int32) = -nI 1 from rfl, show (goB B t).1 = B.1 from rfl, bi_ntn _ _ (by omega) (by omega)]
  rw [bi_ex (q := fun i => oP_ (goB B t) 0 i && !oP_ B 0 i) (fun i hi => by rw [decide_eq_true hi]; rfl)]
theorem x12_go {r t : Nat} {B : Bd_} {σ : St} (hr : r ≠ 305) (W : WB B) (h : BR r 0 B σ) (ht : t < 2 ^ 30) : ∃ s, f_X12_goesOn σ r (nI t) = some s ∧ BR r 0 (goB B t) s ∧ FR r σ s := by
  have h8 := W.1
  obtain ⟨s, e, hB, hF⟩ : ∃ s, iter (fun z : Int32 × St => f_X12_goesOn_s2 r z.2 (nI t) z.1) FU ((0 : Int32), σ) = some s ∧ BR r 0 (gk B t B.1) s ∧ FR r σ s := by
    refine it_inv (fun k z => z.1 = nI k ∧ BR r 0 (gk B t k) z.2 ∧ FR r σ z.2) (fun s => BR r 0 (gk B t B.1) s ∧ FR r σ s) B.1 (by omega) ⟨rfl, (show BR r 0 (gk B t 0) σ from h), FR.rf _ _⟩ (fun k z hk hI => ?_) (fun z hI => ?_)
    · obtain ⟨z1, s⟩ := z
      obtain ⟨rfl, hB, hF⟩ := hI
      dsimp only at hB hF
      have hn : (gk B t k).1 = B.1 := (gk_n k).1
      have h3 := hB.k3 (k := k) (by omega)
      have hW := gk_w (t := t) W k (by omega)
      have b3 := hW.b3 (k := k) (by omega)
      have hn2 := hB.n
      rw [hn] at hn2
      show ∃ s', f_X12_goesOn_s2 r s (nI t) (nI k) = some (.inl s') ∧ _
      unfold f_X12_goesOn_s2
      simp (disch := omega) only [hn2, h3, li_0, li_1, li_16, c_leF, gd_n, nI_clamp, nI_add, mx_0]
      exact ⟨_, rfl, rfl, hB.se hW (j := 2) rfl (by omega) (by omega) hr, hF.sA⟩
    · obtain ⟨z1, s⟩ := z
      obtain ⟨rfl, hB, hF⟩ := hI
      dsimp only at hB hF
      have hn2 := hB.n
      rw [(gk_n _).1] at hn2
      refine ⟨s, ?_, hB, hF⟩
      show f_X12_goesOn_s2 r s (nI t) (nI B.1) = _
      unfold f_X12_goesOn_s2
      simp (disch := omega) only [hn2, c_leT]
  have hn : (gk B t B.1).1 = B.1 := (gk_n _).1
  refine ⟨sA s r 32 (cA s r 32 + nI t), ?_, ?_, hF.sA⟩
  · unfold f_X12_goesOn
    rw [bi_nd e]
    simp (disch := omega) only [li_32, gd_n, nI_clamp]
  · obtain ⟨h1, h2, h3, h4, h5⟩ := hB
    rw [Nat.zero_add] at h2 h3
    refine ⟨?_, ?_, ?_, fun l hl => ?_, fun l hl hl2 => ?_⟩
    · rw [rFA, h1, hn]; rfl
    · rw [Nat.zero_add, rAs, h2, (gk_n _).2]; rfl
    · rw [Nat.zero_add, rAj (by omega), h3, (gk_n _).2]; rfl
    · have hl2 : l < B.1 := hl
      obtain ⟨a0, a1, a2, a3, a4⟩ := h4 l (by rw [hn]; exact hl)
      exact ⟨by rw [rAp (Ne.symm hr)]; exact a0, by rw [rAj (by omega)]; exact a1, by rw [rAj (by omega)]; exact a2, by rw [rAj (by omega)]; exact a3, by rw [rAj (by omega)]; exact a4⟩
    · obtain ⟨a, c⟩ := h5 l (by rw [hn]; exact hl) hl2
      exact ⟨by rw [rAj (by omega)]; exact a, by rw [rAj (by omega)]; exact c⟩
/-- a question is asked -/
def ak (B : Bd_) (p : Nat → Bool) : Nat → Bd_
  | 0 => B
  | k + 1 => if p k = true then se_B (se_B (ak B p k) 3 k (1 + (ak B p k).2.1 1 k / 2)) 4 k (if (ak B p k).2.1 4 k + 1 < 99 then (ak B p k).2.1 4 k + 1 else 99) else ak B p k
def asB (B : Bd_) (p : Nat → Bool) : Bd_ := (B.1, (ak B p B.1).2.1, B.2.2.1, if B.2.2.2 + nI 1 < nI 9999 then B.2.2.2 + nI 1 else nI 9999)
theorem ak_s {B : Bd_} {p : Nat → Bool} {k : Nat} : ak B p (k + 1) = if p k = true then se_B (se_B (ak B p k) 3 k (1 + (ak B p k).2.1 1 k / 2)) 4 k (if (ak B p k).2.1 4 k + 1 < 99 then (ak B p k).2.1 4 k + 1 else 99) else ak B p k := rfl
theorem ak_n {B : Bd_} {p : Nat → Bool} : ∀ k, (ak B p k).1 = B.1 ∧ (ak B p k).2.2 = B.2.2 := by
  intro k
  induction k with
  | zero => exact ⟨rfl, rfl⟩
  | succ k ih =>
    rw [ak_s]
    split
    · exact ih
    · exact ih
theorem ak_g {B : Bd_} {p : Nat → Bool} : ∀ k j l, k ≤ l → (ak B p k).2.1 j l = B.2.1 j l := by
  intro k
  induction k with
  | zero => intro j l _; rfl
  | succ k ih =>
    intro j l hl
    rw [ak_s]
    split
    · rw [se_Bn (by omega), se_Bn (by omega)]; exact ih j l (by omega)
    · exact ih j l (by omega)
theorem ak_w {B : Bd_} {p : Nat → Bool} (W : WB B) : ∀ k, k ≤ B.1 → WB (ak B p k) := by
  intro k
  induction k with
  | zero => intro _; exact W
  | succ k ih =>
    intro hk
    have hW := ih (by omega)
    have b1 := hW.b1 (k := k) (by rw [(ak_n k).1]; omega)
    rw [ak_s]
    split
    · refine (hW.se ⟨by omega, by omega, by omega, fun _ => by omega, by omega⟩).se ⟨by omega, by omega, by omega, by omega, fun _ => ?_⟩
      split <;> omega
    · exact hW
theorem asB_w {B : Bd_} {p : Nat → Bool} (W : WB B) : WB (asB B p) := by
  have h := ak_w (p := p) W B.1 (Nat.le_refl _)
  exact ⟨W.1, fun k hk => h.2 k (by rw [(ak_n _).1]; exact hk)⟩
theorem x0_as {w b t wd : Nat} {B : Bd_} {C : Lw} {χ : St} (hw : w < 22) (hb : 27 ≤ b) (hwb : w + 4 < b) (W : WB B) (h : BC_ b B χ) (hC : WC C) (hL : LC_ w C χ) (ht : t < 4) : ∃ s, f_X0_ask χ b w (nI t) (nI wd) = some (nI (bi (clP B C t wd) B.1), s) ∧ BC_ b (asB B (clP B C t wd)) s ∧ FC_ b (w + 4) χ s := by
  have h8 := W.1
  obtain ⟨s0, e0, hs0⟩ := x0_cl (wd := wd) hw hb W h hC hL ht
  have hB0 := h.sV hs0 hwb
  have h31 := bi_31 (clP B C t wd) (n := B.1) (by omega)
  obtain ⟨s, e, hB, hF⟩ : ∃ s, iter (fun z : Int32 × St => f_X0_ask_s12 b w z.2 (nI (bi (clP B C t wd) B.1)) z.1) FU ((0 : Int32), s0) = some s ∧ BC_ b (ak B (clP B C t wd) B.1) s ∧ FC_ b (w + 4) χ s := by
    refine it_inv (fun k z => z.1 = nI k ∧ BC_ b (ak B (clP B C t wd) k) z.2 ∧ FC_ b (w + 4) χ z.2) (fun s => BC_ b (ak B (clP B C t wd) B.1) s ∧ FC_ b (w + 4) χ s) B.1 (by omega) ⟨rfl, (show BC_ b (ak B (clP B C t wd) 0) s0 from hB0), FC_.sV hs0⟩ (fun k z hk hI => ?_) (fun z hI => ?_)
    · obtain ⟨z1, s⟩ := z
      obtain ⟨rfl, hB, hF⟩ := hI
      dsimp only at hB hF
      have hn : (ak B (clP B C t wd) k).1 = B.1 := (ak_n k).1
      have h1 := hB.k1 (k := k) (by omega)
      have h3 := hB.k3 (k := k) (by omega)
      have h4 := hB.k4 (k := k) (by omega)
      have hW := ak_w (p := clP B C t wd) W k (by omega)
      have b1 := hW.b1 (k := k) (by omega)
      have b4 := hW.b4 (k := k) (by omega)
      have hn2 := hB.n
      rw [hn] at hn2
      have htb : (bi (clP B C t wd) B.1).testBit k = clP B C t wd k := by rw [bi_tb, decide_eq_true hk]; rfl
      show ∃ s', f_X0_ask_s12 b w s (nI (bi (clP B C t wd) B.1)) (nI k) = some (.inl s') ∧ _
      unfold f_X0_ask_s12 f_X0_ask_j74_12
      simp (disch := omega) only [hn2, h1, h3, h4, rAp, li_1, li_2, li_99, c_leF, gd_n, nI_clamp, nI_add, pk_div, ha_n, htb, c_ltN, nI_sI]
      by_cases hp : clP B C t wd k = true
      · have hz : (ak B (clP B C t wd) k).2.1 3 k = 0 := by
          rw [ak_g k 3 k (Nat.le_refl _)]
          unfold clP oP_ at hp
          rw [Bool.and_eq_true, decide_eq_true_eq] at hp
          omega
        rw [hp, if_pos (show nI (true).toNat = nI 1 from rfl), hz, Nat.zero_add]
        refine ⟨_, rfl, rfl, ?_, (hF.sA (by omega)).sA (by omega)⟩
        rw [ak_s, if_pos hp]
        exact (hB.se (j := 3) rfl (by omega)).se (j := 4) rfl (by omega)
      · rw [Bool.eq_false_iff.mpr hp, if_neg (show ¬ nI (false).toNat = nI 1 by decide)]
        refine ⟨_, rfl, rfl, ?_, hF⟩
        rw [ak_s, if_neg hp]
        exact hB
    · obtain ⟨z1, s⟩ := z
      obtain ⟨rfl, hB, hF⟩ := hI
      dsimp only at hB hF
      have hn2 := hB.n
      rw [(ak_n _).1] at hn2
      refine ⟨s, ?_, hB, hF⟩
      show f_X0_ask_s12 b w s (nI (bi (clP B C t wd) B.1)) (nI B.1) = _
      unfold f_X0_ask_s12
      simp (disch := omega) only [hn2, c_leT]
  have hn : (ak B (clP B C t wd) B.1).1 = B.1 := (ak_n _).1
  refine ⟨_, ?_, ?_, hF.sF (i := 7) (x := if cF s b 7 + nI 1 < nI 9999 then cF s b 7 + nI 1 else nI 9999)⟩
  · unfold f_X0_ask
    rw [bi_nd e0]
    dsimp only
    rw [bi_nd e]
    rfl
  · obtain ⟨h1, h2, h3, h4⟩ := hB
    refine ⟨?_, ?_, ?_, fun l hl => h4 l (by rw [hn]; exact hl)⟩
    · rw [rFj (by omega), h1, hn]; rfl
    · rw [rFj (by omega), h2, (ak_n _).2]; rfl
    · rw [rFs, h3, (ak_n _).2]; rfl
theorem x12_as {r t wd : Nat} {B : Bd_} {C : Lw} {σ : St} (hr : r ≠ 319 ∧ r ≠ 320 ∧ r ≠ 305) (W : WB B) (h : BR r 0 B σ) (hC : WC C) (hL : LR_ C σ) (ht : t < 4) : ∃ s, f_X12_asksAll σ r (nI t) (nI wd) = some (nI (bi (clP B C t wd) B.1), s) ∧ BR r 0 (asB B (clP B C t wd)) s ∧ FR r σ s := by
  have h8 := W.1
  obtain ⟨s0, e0, hs0⟩ := x12_cl (wd := wd) ⟨hr.1, hr.2.1⟩ W h hC hL ht
  have hB0 := h.sE hs0 ⟨hr.1, hr.2.1⟩
  have h31 := bi_31 (clP B C t wd) (n := B.1) (by omega)
  obtain ⟨s, e, hB, hF⟩ : ∃ s, iter (fun z : Int32 × St => f_X12_asksAll_s12 r z.2 (nI (bi (clP B C t wd) B.1)) z.1) FU ((0 : Int32), s0) = some s ∧ BR r 0 (ak B (clP B C t wd) B.1) s ∧ FR r σ s := by
    refine it_inv (fun k z => z.1 = nI k ∧ BR r 0 (ak B (clP B C t wd) k) z.2 ∧ FR r σ z.2) (fun s => BR r 0 (ak B (clP B C t wd) B.1) s ∧ FR r σ s) B.1 (by omega) ⟨rfl, (show BR r 0 (ak B (clP B C t wd) 0) s0 from hB0), FR.sE hs0⟩ (fun k z hk hI => ?_) (fun z hI => ?_)
    · obtain ⟨z1, s⟩ := z
      obtain ⟨rfl, hB, hF⟩ := hI
      dsimp only at hB hF
      have hn : (ak B (clP B C t wd) k).1 = B.1 := (ak_n k).1
      have h1 := hB.k1 (k := k) (by omega)
      have h3 := hB.k3 (k := k) (by omega)
      have h4 := hB.k4 (k := k) (by omega)
      have hW := ak_w (p := clP B C t wd) W k (by omega)
      have b1 := hW.b1 (k := k) (by omega)
      have b4 := hW.b4 (k := k) (by omega)
      have hn2 := hB.n
      rw [hn] at hn2
      have htb : (bi (clP B C t wd) B.1).testBit k = clP B C t wd k := by rw [bi_tb, decide_eq_true hk]; rfl
      show ∃ s', f_X12_asksAll_s12 r s (nI (bi (clP B C t wd) B.1)) (nI k) = some (.inl s') ∧ _
      unfold f_X12_asksAll_s12 f_X12_asksAll_j67_12
      simp (disch := omega) only [hn2, h1, h4, rAj, li_0, li_1, li_2, li_16, li_24, li_99, c_leF, gd_n, nI_clamp, nI_add, pk_div, x12_ha, Option.bind_some, htb, c_ltN, nI_sI]
      by_cases hp : clP B C t wd k = true
      · rw [hp, if_neg (show ¬ nI (true).toNat = nI 0 by decide)]
        refine ⟨_, rfl, rfl, ?_, hF.sA.sA⟩
        rw [ak_s, if_pos hp]
        exact (hB.se hW (j := 2) rfl (by omega) (by omega) hr.2.2).se (hW.se ⟨by omega, by omega, by omega, fun _ => by omega, by omega⟩) (j := 3) rfl (by omega) (by show k < (ak B (clP B C t wd) k).1; omega) hr.2.2
      · rw [Bool.eq_false_iff.mpr hp, if_pos (show nI (false).toNat = nI 0 from rfl)]
        refine ⟨_, rfl, rfl, ?_, hF⟩
        rw [ak_s, if_neg hp]
        exact hB
    · obtain ⟨z1, s⟩ := z
      obtain ⟨rfl, hB, hF⟩ := hI
      dsimp only at hB hF
      have hn2 := hB.n
      rw [(ak_n _).1] at hn2
      refine ⟨s, ?_, hB, hF⟩
      show f_X12_asksAll_s12 r s (nI (bi (clP B C t wd) B.1)) (nI B.1) = _
      unfold f_X12_asksAll_s12
      simp (disch := omega) only [hn2, c_leT]
  have hn : (ak B (clP B C t wd) B.1).1 = B.1 := (ak_n _).1
  refine ⟨sA s r 33 (if cA s r 33 + nI 1 < nI 9999 then cA s r 33 + nI 1 else nI 9999), ?_, ?_, hF.sA⟩
  · unfold f_X12_asksAll
    rw [bi_nd e0]
    dsimp only
    rw [bi_nd e]
    simp (disch := omega) only [li_1, li_33, li_9999, gd_n, nI_clamp]
  · obtain ⟨h1, h2, h3, h4, h5⟩ := hB
    rw [Nat.zero_add] at h2 h3
    refine ⟨?_, ?_, ?_, fun l hl => ?_, fun l hl hl2 => ?_⟩
    · rw [rFA, h1, hn]; rfl
    · rw [Nat.zero_add, rAj (by omega), h2, (ak_n _).2]; rfl
    · rw [Nat.zero_add, rAs, h3, (ak_n _).2]; rfl
    · have hl2 : l < B.1 := hl
      obtain ⟨a0, a1, a2, a3, a4⟩ := h4 l (by rw [hn]; exact hl)
      exact ⟨by rw [rAp (Ne.symm hr.2.2)]; exact a0, by rw [rAj (by omega)]; exact a1, by rw [rAj (by omega)]; exact a2, by rw [rAj (by omega)]; exact a3, by rw [rAj (by omega)]; exact a4⟩
    · obtain ⟨a, c⟩ := h5 l (by rw [hn]; exact hl) hl2
      exact ⟨by rw [rAj (by omega)]; exact a, by rw [rAj (by omega)]; exact c⟩
