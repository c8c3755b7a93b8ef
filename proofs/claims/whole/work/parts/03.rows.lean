/-! THE STATES of both systems, the contracts' form, the rows by places. -/
abbrev St : Type := (Nat → Nat → Int32) × (Nat → Nat → Int32) × (Nat → Nat → Int64) × (Nat × Nat)
def cF (χ : St) (p j : Nat) : Int32 := χ.1 p j
def cA (χ : St) (p i : Nat) : Int32 := χ.2.1 p i
def cL (χ : St) (p i : Nat) : Int64 := χ.2.2.1 p i
def cW (χ : St) : Nat × Nat := χ.2.2.2
def sF (χ : St) (p j : Nat) (x : Int32) : St := (up2 χ.1 p j x, χ.2)
def sA (χ : St) (p i : Nat) (x : Int32) : St := (χ.1, up2 χ.2.1 p i x, χ.2.2)
def sL (χ : St) (p i : Nat) (x : Int64) : St := (χ.1, χ.2.1, up3 χ.2.2.1 p i x, χ.2.2.2)
def sW (χ : St) (w : Nat × Nat) : St := (χ.1, χ.2.1, χ.2.2.1, w)
def mF (χ σ : St) : Nat → Nat → Int32 := fun p => if p < 300 then χ.1 p else σ.1 p
def mA (χ σ : St) : Nat → Nat → Int32 := fun p => if p < 300 then χ.2.1 p else σ.2.1 p
def mL (χ σ : St) : Nat → Nat → Int64 := fun p => if p < 300 then χ.2.2.1 p else σ.2.2.1 p
def HH (G : gT) (χ σ : St) (H : Heap) : Prop := GH G (mF χ σ) (mA χ σ) (mL χ σ) (cW χ) H
def HQ (G : gT) (χ σ : St) (H : Heap) (locs : List Loc) : Prop := GQ G (mF χ σ) (mA χ σ) (mL χ σ) (cW χ) H locs
theorem mF_c {χ σ : St} {p j : Nat} (h : p < 300) : mF χ σ p j = cF χ p j := by unfold mF cF; rw [if_pos h]
theorem mF_m {χ σ : St} {p j : Nat} (h : 300 ≤ p) : mF χ σ p j = cF σ p j := by unfold mF cF; rw [if_neg (Nat.not_lt.mpr h)]
theorem mA_c {χ σ : St} {p j : Nat} (h : p < 300) : mA χ σ p j = cA χ p j := by unfold mA cA; rw [if_pos h]
theorem mA_m {χ σ : St} {p j : Nat} (h : 300 ≤ p) : mA χ σ p j = cA σ p j := by unfold mA cA; rw [if_neg (Nat.not_lt.mpr h)]
theorem mL_c {χ σ : St} {p j : Nat} (h : p < 300) : mL χ σ p j = cL χ p j := by unfold mL cL; rw [if_pos h]
theorem mL_m {χ σ : St} {p j : Nat} (h : 300 ≤ p) : mL χ σ p j = cL σ p j := by unfold mL cL; rw [if_neg (Nat.not_lt.mpr h)]
theorem up2_mF_c {χ σ : St} {p j : Nat} {x : Int32} (h : p < 300) : up2 (mF χ σ) p j x = mF (sF χ p j x) σ := by
  funext q
  by_cases hq : q = p
  · subst hq
    rw [up2_s]
    unfold mF sF
    dsimp only
    rw [if_pos h, if_pos h, up2_s]
  · rw [up2_n _ _ _ hq]
    unfold mF sF
    dsimp only
    rw [up2_n _ _ _ hq]
theorem up2_mF_m {χ σ : St} {p j : Nat} {x : Int32} (h : 300 ≤ p) : up2 (mF χ σ) p j x = mF χ (sF σ p j x) := by
  funext q
  by_cases hq : q = p
  · subst hq
    rw [up2_s]
    unfold mF sF
    dsimp only
    rw [if_neg (Nat.not_lt.mpr h), if_neg (Nat.not_lt.mpr h), up2_s]
  · rw [up2_n _ _ _ hq]
    unfold mF sF
    dsimp only
    rw [up2_n _ _ _ hq]
theorem up2_mA_c {χ σ : St} {p j : Nat} {x : Int32} (h : p < 300) : up2 (mA χ σ) p j x = mA (sA χ p j x) σ := by
  funext q
  by_cases hq : q = p
  · subst hq
    rw [up2_s]
    unfold mA sA
    dsimp only
    rw [if_pos h, if_pos h, up2_s]
  · rw [up2_n _ _ _ hq]
    unfold mA sA
    dsimp only
    rw [up2_n _ _ _ hq]
theorem up2_mA_m {χ σ : St} {p j : Nat} {x : Int32} (h : 300 ≤ p) : up2 (mA χ σ) p j x = mA χ (sA σ p j x) := by
  funext q
  by_cases hq : q = p
  · subst hq
    rw [up2_s]
    unfold mA sA
    dsimp only
    rw [if_neg (Nat.not_lt.mpr h), if_neg (Nat.not_lt.mpr h), up2_s]
  · rw [up2_n _ _ _ hq]
    unfold mA sA
    dsimp only
    rw [up2_n _ _ _ hq]
theorem up3_mL_c {χ σ : St} {p j : Nat} {x : Int64} (h : p < 300) : up3 (mL χ σ) p j x = mL (sL χ p j x) σ := by
  funext q
  by_cases hq : q = p
  · subst hq
    rw [up3_s]
    unfold mL sL
    dsimp only
    rw [if_pos h, if_pos h, up3_s]
  · rw [up3_n _ _ _ hq]
    unfold mL sL
    dsimp only
    rw [up3_n _ _ _ hq]
theorem up3_mL_m {χ σ : St} {p j : Nat} {x : Int64} (h : 300 ≤ p) : up3 (mL χ σ) p j x = mL χ (sL σ p j x) := by
  funext q
  by_cases hq : q = p
  · subst hq
    rw [up3_s]
    unfold mL sL
    dsimp only
    rw [if_neg (Nat.not_lt.mpr h), if_neg (Nat.not_lt.mpr h), up3_s]
  · rw [up3_n _ _ _ hq]
    unfold mL sL
    dsimp only
    rw [up3_n _ _ _ hq]
theorem ev_int {G : gT} {F : Nat → Nat → Int32} {w : Nat × Nat} {P ci N j : Nat} {x : Int32} (hO : OP G P ci N) (hI : pI ci j = true) (hx : F P j = x) : eV G F w P j = .int x := by
  unfold eV
  rw [hO.2.1, if_pos hI, hx]
theorem ev_ref {G : gT} {F : Nat → Nat → Int32} {w : Nat × Nat} {P ci N j q : Nat} (hO : OP G P ci N) (hI : pI ci j = false) (hq : rt w P j = q) : eV G F w P j = .ref (ga G q) := by
  unfold eV
  rw [hO.2.1, hI, hq]
  rfl
/-- tests of the plain functions -/
def inb (i : Int32) (n : Nat) : Bool := !(decide (i < 0)) && decide (i.toNatClampNeg < n)
theorem inb_in {i : Int32} {n : Nat} (h : inb i n = true) : vp_in i n := by
  unfold inb at h
  simp only [Bool.and_eq_true, Bool.not_eq_true', decide_eq_false_iff_not, decide_eq_true_eq] at h
  intro q
  rcases q with q | q
  · exact h.1 q
  · exact absurd h.2 (Nat.not_lt.mpr q)
theorem inb_lt {i : Int32} {n : Nat} (h : inb i n = true) : i.toNatClampNeg < n := by
  unfold inb at h
  simp only [Bool.and_eq_true, decide_eq_true_eq] at h
  exact h.2
def nz (x : Int32) : Bool := !(decide (x = 0))
theorem nz_ne {x : Int32} (h : nz x = true) : ¬ x = 0 := by
  unfold nz at h
  simpa using h
def nzl (x : Int64) : Bool := !(decide (x = 0))
theorem nzl_ne {x : Int64} (h : nzl x = true) : ¬ x = 0 := by
  unfold nzl at h
  simpa using h
def nb (x : Int32) : Bool := decide (narrow .boolean (.int x) = .int x)
theorem nb_of {x : Int32} (h : nb x = true) : narrow .boolean (.int x) = .int x := of_decide_eq_true h
def nc (x : Int32) : Bool := decide (narrow .char (.int x) = .int x)
theorem nc_of {x : Int32} (h : nc x = true) : narrow .char (.int x) = .int x := of_decide_eq_true h
def gd {α : Type} (b : Bool) (k : Option α) : Option α := if b = true then k else none
theorem gd_some {α : Type} {b : Bool} {k : Option α} {r : α} (h : gd b k = some r) : b = true ∧ k = some r := by
  unfold gd at h
  by_cases hb : b = true
  · rw [if_pos hb] at h
    exact ⟨hb, h⟩
  · rw [if_neg hb] at h
    cases h
theorem bd_some {α β : Type} {a : Option α} {k : α → Option β} {r : β} (h : a.bind k = some r) : ∃ x, a = some x ∧ k x = some r := by
  cases a with
  | none => cases h
  | some x => exact ⟨x, rfl, h⟩
def iter {S X : Type} (step : S → Option (S ⊕ X)) : Nat → S → Option X
  | 0, _ => none
  | n + 1, s => match step s with
    | none => none
    | some (.inl s') => iter step n s'
    | some (.inr x) => some x
theorem iter_some {S X : Type} {step : S → Option (S ⊕ X)} {n : Nat} {s : S} {x : X} (h : iter step (n + 1) s = some x) : (∃ s', step s = some (.inl s') ∧ iter step n s' = some x) ∨ step s = some (.inr x) := by
  unfold iter at h
  cases hs : step s with
  | none => rw [hs] at h; cases h
  | some o =>
    rw [hs] at h
    cases o with
    | inl s' => exact Or.inl ⟨s', rfl, h⟩
    | inr y => exact Or.inr (by rw [Option.some.inj h])
/-- at a loop's head: what its turns come to -/
theorem iter_w {S X : Type} {step : S → Option (S ⊕ X)} {Wh : S → Prop} {K : X → Prop} (hb : ∀ (s : S) (o : S ⊕ X), step s = some o → Sum.elim Wh K o → Wh s) : ∀ (n : Nat) (s : S) (x : X), iter step n s = some x → K x → Wh s := by
  intro n
  induction n with
  | zero => intro s x h; cases h
  | succ n ih =>
    intro s x h hk
    rcases iter_some h with ⟨s', h1, h2⟩ | h1
    · exact hb s (.inl s') h1 (ih s' x h2 hk)
    · exact hb s (.inr x) h1 hk
/-- turns enough for every loop -/
def FU : Nat := 4096
/-- laws' places -/
def lawL : List Nat := [16, 21]
def isBed (p : Nat) : Bool := decide (p ∈ bedL)
def isLaw (p : Nat) : Bool := decide (p ∈ lawL)
def opB (p ci n : Nat) : Bool := decide (p ∈ PL) && decide (pk p = ci) && decide (pn p = n)
/-- the full world: every place is there, all that is new may be written -/
def FW (G : gT) : Prop := gP G = PL ∧ ∀ q : Nat, gA G q ↔ (gH G).size ≤ q
theorem opB_st {p ci n : Nat} (h : opB p ci n = true) : p ∈ PL ∧ pk p = ci ∧ pn p = n := by
  unfold opB at h
  simp only [Bool.and_eq_true, decide_eq_true_eq] at h
  exact ⟨h.1.1, h.1.2, h.2⟩
theorem opB_of {G : gT} {p ci n : Nat} (hf : FW G) (h : opB p ci n = true) : OP G p ci n := by
  obtain ⟨h1, h2, h3⟩ := opB_st h
  exact ⟨by rw [hf.1]; exact h1, h2, h3⟩
theorem bed_all : bedL.all (fun p => opB p 0 8 && opB (p + 1) 11 8 && opB (p + 2) 11 8 && opB (p + 3) 11 8 && opB (p + 4) 11 8 && opB (p + 5) 11 8 && decide (p + 5 < 300) && decide (rt (16, 21) p 0 = p + 1) && decide (rt (16, 21) p 1 = p + 2) && decide (rt (16, 21) p 2 = p + 3) && decide (rt (16, 21) p 3 = p + 4) && decide (rt (16, 21) p 4 = p + 5) && decide (¬ p = 0)) = true := by decide +kernel
theorem bed_st {p : Nat} (h : isBed p = true) : opB p 0 8 = true ∧ opB (p + 1) 11 8 = true ∧ opB (p + 2) 11 8 = true ∧ opB (p + 3) 11 8 = true ∧ opB (p + 4) 11 8 = true ∧ opB (p + 5) 11 8 = true ∧ p + 5 < 300 ∧ p ≠ 0 ∧ p ≠ 5 := by
  have h1 := List.all_eq_true.mp bed_all p (of_decide_eq_true h)
  simp only [Bool.and_eq_true, decide_eq_true_eq] at h1
  obtain ⟨⟨⟨⟨⟨⟨⟨⟨⟨⟨⟨⟨a0, a1⟩, a2⟩, a3⟩, a4⟩, a5⟩, a6⟩, -⟩, -⟩, -⟩, -⟩, -⟩, a7⟩ := h1
  have hm := of_decide_eq_true h
  have h5 : p ≠ 5 := by
    rintro rfl
    revert hm
    decide
  exact ⟨a0, a1, a2, a3, a4, a5, a6, a7, h5⟩
theorem bed_at {G : gT} (hf : FW G) {p : Nat} (h : isBed p = true) : OP G p 0 8 ∧ OP G (p + 1) 11 8 ∧ OP G (p + 2) 11 8 ∧ OP G (p + 3) 11 8 ∧ OP G (p + 4) 11 8 ∧ OP G (p + 5) 11 8 ∧ p + 5 < 300 ∧ p ≠ 0 ∧ p ≠ 5 := by
  obtain ⟨a0, a1, a2, a3, a4, a5, a6, a7, h5⟩ := bed_st h
  exact ⟨opB_of hf a0, opB_of hf a1, opB_of hf a2, opB_of hf a3, opB_of hf a4, opB_of hf a5, a6, a7, h5⟩
theorem rt_bed {w : Nat × Nat} {p j : Nat} (h : isBed p = true) : rt w p j = p + 1 + j := by
  obtain ⟨h0, -, -, -, -, -, h6, h7, h8⟩ := bed_st h
  unfold rt
  rw [if_neg h7, if_neg h8, if_neg (by omega), (opB_st h0).2.1, if_neg (by decide)]
/-- a law's cells are there -/
def LW (G : gT) (p : Nat) : Prop := (OP G p 2 9 ∧ OP G (p + 1) 11 40 ∧ OP G (p + 2) 11 40 ∧ OP G (p + 3) 13 5 ∧ OP G (p + 4) 11 40 ∧ p + 4 < 300) ∧ isLaw p = true
theorem law_at {G : gT} {p : Nat} (h : LW G p) : OP G p 2 9 ∧ OP G (p + 1) 11 40 ∧ OP G (p + 2) 11 40 ∧ OP G (p + 3) 13 5 ∧ OP G (p + 4) 11 40 ∧ p + 4 < 300 := h.1
theorem LW.of {G : gT} (hf : FW G) {p : Nat} (h : isLaw p = true) : LW G p := by
  refine ⟨?_, h⟩
  have hm := of_decide_eq_true h
  simp only [lawL, List.mem_cons, List.not_mem_nil, or_false] at hm
  rcases hm with rfl | rfl
  · exact ⟨opB_of hf (by decide +kernel), opB_of hf (by decide +kernel), opB_of hf (by decide +kernel), opB_of hf (by decide +kernel), opB_of hf (by decide +kernel), by decide⟩
  · exact ⟨opB_of hf (by decide +kernel), opB_of hf (by decide +kernel), opB_of hf (by decide +kernel), opB_of hf (by decide +kernel), opB_of hf (by decide +kernel), by decide⟩
theorem rt_law {G : gT} {w : Nat × Nat} {p : Nat} (h9 : LW G p) : rt w p 0 = p + 1 ∧ rt w p 2 = p + 2 ∧ rt w p 4 = p + 3 ∧ rt w p 8 = p + 4 := by
  have hm := of_decide_eq_true h9.2
  simp only [lawL, List.mem_cons, List.not_mem_nil, or_false] at hm
  rcases hm with rfl | rfl <;> exact ⟨rfl, rfl, rfl, rfl⟩
theorem nbz0 : narrow .boolean (.int (0 : Int32)) = .int 0 := by decide
theorem nbz1 : narrow .boolean (.int (1 : Int32)) = .int 1 := by decide
theorem ncz0 : narrow .char (.int (0 : Int32)) = .int 0 := by decide
theorem lt_of5 {p : Nat} (h : p + 5 < 300) : p < 300 := by omega
theorem lt_of4 {p : Nat} (h : p + 4 < 300) : p < 300 := by omega
theorem b_32 : isBed 32 = true := by decide +kernel
theorem b_40 : isBed 40 = true := by decide +kernel
theorem bt6 {i : Nat} (h : i < 15) : isBed (bt 6 i) = true := by
  have h1 : (List.range 15).all (fun i => isBed (bt 6 i)) = true := by decide +kernel
  exact List.all_eq_true.mp h1 i (List.mem_range.mpr h)
theorem bt7 {i : Nat} (h : i < 3) : isBed (bt 7 i) = true := by
  have h1 : (List.range 3).all (fun i => isBed (bt 7 i)) = true := by decide +kernel
  exact List.all_eq_true.mp h1 i (List.mem_range.mpr h)
theorem o_0 {G : gT} (hf : FW G) : OP G 0 7 9 := opB_of hf (by decide +kernel)
theorem o_1 {G : gT} (hf : FW G) : OP G 1 5 2 := opB_of hf (by decide +kernel)
theorem o_2 {G : gT} (hf : FW G) : OP G 2 10 80 := opB_of hf (by decide +kernel)
theorem o_3 {G : gT} (hf : FW G) : OP G 3 6 2 := opB_of hf (by decide +kernel)
theorem o_4 {G : gT} (hf : FW G) : OP G 4 12 12 := opB_of hf (by decide +kernel)
theorem o_5 {G : gT} (hf : FW G) : OP G 5 3 5 := opB_of hf (by decide +kernel)
theorem o_6 {G : gT} (hf : FW G) : OP G 6 14 15 := opB_of hf (by decide +kernel)
theorem o_7 {G : gT} (hf : FW G) : OP G 7 14 3 := opB_of hf (by decide +kernel)
theorem o_8 {G : gT} (hf : FW G) : OP G 8 13 3 := opB_of hf (by decide +kernel)
theorem o_9 {G : gT} (hf : FW G) : OP G 9 4 4 := opB_of hf (by decide +kernel)
theorem o_10 {G : gT} (hf : FW G) : OP G 10 11 10 := opB_of hf (by decide +kernel)
theorem o_11 {G : gT} (hf : FW G) : OP G 11 11 10 := opB_of hf (by decide +kernel)
theorem o_12 {G : gT} (hf : FW G) : OP G 12 11 10 := opB_of hf (by decide +kernel)
theorem o_13 {G : gT} (hf : FW G) : OP G 13 1 3 := opB_of hf (by decide +kernel)
theorem o_14 {G : gT} (hf : FW G) : OP G 14 11 12 := opB_of hf (by decide +kernel)
theorem o_15 {G : gT} (hf : FW G) : OP G 15 11 12 := opB_of hf (by decide +kernel)
theorem o_16 {G : gT} (hf : FW G) : OP G 16 2 9 := opB_of hf (by decide +kernel)
theorem o_17 {G : gT} (hf : FW G) : OP G 17 11 40 := opB_of hf (by decide +kernel)
theorem o_18 {G : gT} (hf : FW G) : OP G 18 11 40 := opB_of hf (by decide +kernel)
theorem o_19 {G : gT} (hf : FW G) : OP G 19 13 5 := opB_of hf (by decide +kernel)
theorem o_20 {G : gT} (hf : FW G) : OP G 20 11 40 := opB_of hf (by decide +kernel)
theorem o_21 {G : gT} (hf : FW G) : OP G 21 2 9 := opB_of hf (by decide +kernel)
theorem o_22 {G : gT} (hf : FW G) : OP G 22 11 40 := opB_of hf (by decide +kernel)
theorem o_23 {G : gT} (hf : FW G) : OP G 23 11 40 := opB_of hf (by decide +kernel)
theorem o_24 {G : gT} (hf : FW G) : OP G 24 13 5 := opB_of hf (by decide +kernel)
theorem o_25 {G : gT} (hf : FW G) : OP G 25 11 40 := opB_of hf (by decide +kernel)
theorem o_26 {G : gT} (hf : FW G) : OP G 26 12 1 := opB_of hf (by decide +kernel)
theorem o_300 {G : gT} (hf : FW G) : OP G 300 8 41 := opB_of hf (by decide +kernel)
theorem o_302 {G : gT} (hf : FW G) : OP G 302 12 24 := opB_of hf (by decide +kernel)
theorem o_305 {G : gT} (hf : FW G) : OP G 305 11 8 := opB_of hf (by decide +kernel)
theorem o_306 {G : gT} (hf : FW G) : OP G 306 11 34 := opB_of hf (by decide +kernel)
theorem o_307 {G : gT} (hf : FW G) : OP G 307 11 34 := opB_of hf (by decide +kernel)
theorem o_308 {G : gT} (hf : FW G) : OP G 308 11 80 := opB_of hf (by decide +kernel)
theorem o_313 {G : gT} (hf : FW G) : OP G 313 11 24 := opB_of hf (by decide +kernel)
theorem o_315 {G : gT} (hf : FW G) : OP G 315 11 80 := opB_of hf (by decide +kernel)
theorem o_316 {G : gT} (hf : FW G) : OP G 316 11 80 := opB_of hf (by decide +kernel)
theorem o_319 {G : gT} (hf : FW G) : OP G 319 11 80 := opB_of hf (by decide +kernel)
theorem o_320 {G : gT} (hf : FW G) : OP G 320 11 7 := opB_of hf (by decide +kernel)
theorem o_322 {G : gT} (hf : FW G) : OP G 322 11 544 := opB_of hf (by decide +kernel)
theorem o_323 {G : gT} (hf : FW G) : OP G 323 11 60 := opB_of hf (by decide +kernel)
theorem o_324 {G : gT} (hf : FW G) : OP G 324 11 60 := opB_of hf (by decide +kernel)
theorem o_325 {G : gT} (hf : FW G) : OP G 325 11 60 := opB_of hf (by decide +kernel)
theorem o_328 {G : gT} (hf : FW G) : OP G 328 11 10 := opB_of hf (by decide +kernel)
theorem o_329 {G : gT} (hf : FW G) : OP G 329 11 10 := opB_of hf (by decide +kernel)
theorem o_330 {G : gT} (hf : FW G) : OP G 330 11 9 := opB_of hf (by decide +kernel)
theorem o_332 {G : gT} (hf : FW G) : OP G 332 11 12 := opB_of hf (by decide +kernel)
theorem o_333 {G : gT} (hf : FW G) : OP G 333 11 12 := opB_of hf (by decide +kernel)
theorem o_334 {G : gT} (hf : FW G) : OP G 334 12 10 := opB_of hf (by decide +kernel)
theorem o_335 {G : gT} (hf : FW G) : OP G 335 11 61 := opB_of hf (by decide +kernel)
theorem o_336 {G : gT} (hf : FW G) : OP G 336 11 80 := opB_of hf (by decide +kernel)
theorem o_338 {G : gT} (hf : FW G) : OP G 338 13 3 := opB_of hf (by decide +kernel)
theorem o_339 {G : gT} (hf : FW G) : OP G 339 11 3 := opB_of hf (by decide +kernel)
theorem o_340 {G : gT} (hf : FW G) : OP G 340 11 102 := opB_of hf (by decide +kernel)
theorem o_32 {G : gT} (hf : FW G) : OP G 32 0 8 := opB_of hf (by decide +kernel)
theorem o_33 {G : gT} (hf : FW G) : OP G 33 11 8 := opB_of hf (by decide +kernel)
theorem o_34 {G : gT} (hf : FW G) : OP G 34 11 8 := opB_of hf (by decide +kernel)
theorem o_35 {G : gT} (hf : FW G) : OP G 35 11 8 := opB_of hf (by decide +kernel)
theorem o_36 {G : gT} (hf : FW G) : OP G 36 11 8 := opB_of hf (by decide +kernel)
theorem o_37 {G : gT} (hf : FW G) : OP G 37 11 8 := opB_of hf (by decide +kernel)
theorem o_40 {G : gT} (hf : FW G) : OP G 40 0 8 := opB_of hf (by decide +kernel)
theorem o_41 {G : gT} (hf : FW G) : OP G 41 11 8 := opB_of hf (by decide +kernel)
theorem o_42 {G : gT} (hf : FW G) : OP G 42 11 8 := opB_of hf (by decide +kernel)
theorem o_43 {G : gT} (hf : FW G) : OP G 43 11 8 := opB_of hf (by decide +kernel)
theorem o_44 {G : gT} (hf : FW G) : OP G 44 11 8 := opB_of hf (by decide +kernel)
theorem o_45 {G : gT} (hf : FW G) : OP G 45 11 8 := opB_of hf (by decide +kernel)
theorem nw_0 : Cond.methodLinkNest "OysterBeds" 11 ⟨"OysterBeds$Text", "<init>", "()V"⟩ "OysterBeds" ∈ NWL := List.mem_of_getElem? (i := 0) (by decide +kernel)
theorem nw_1 : Cond.fieldLinkNest "OysterBeds" 64 "OysterBeds$Text" "length" "I" "OysterBeds" ∈ NWL := List.mem_of_getElem? (i := 1) (by decide +kernel)
theorem nw_2 : Cond.fieldLinkNest "OysterBeds$Law" 36 "OysterBeds$Text" "length" "I" "OysterBeds" ∈ NWL := List.mem_of_getElem? (i := 2) (by decide +kernel)
theorem nw_3 : Cond.methodLinkNest "OysterBeds" 18 ⟨"OysterBeds$Told", "<init>", "()V"⟩ "OysterBeds" ∈ NWL := List.mem_of_getElem? (i := 3) (by decide +kernel)
theorem nw_4 : Cond.fieldLinkNest "OysterBeds" 378 "OysterBeds$Told" "numbers" "[J" "OysterBeds" ∈ NWL := List.mem_of_getElem? (i := 4) (by decide +kernel)
theorem nw_5 : Cond.fieldLinkNest "OysterBeds" 375 "OysterBeds$Told" "size" "I" "OysterBeds" ∈ NWL := List.mem_of_getElem? (i := 5) (by decide +kernel)
theorem nw_6 : Cond.methodLinkNest "OysterBeds" 25 ⟨"OysterBeds$Bed", "<init>", "()V"⟩ "OysterBeds" ∈ NWL := List.mem_of_getElem? (i := 6) (by decide +kernel)
theorem nw_7 : Cond.fieldLinkNest "OysterBeds" 118 "OysterBeds$Bed" "kind" "[I" "OysterBeds" ∈ NWL := List.mem_of_getElem? (i := 7) (by decide +kernel)
theorem nw_8 : Cond.fieldLinkNest "OysterBeds$Hearsay" 44 "OysterBeds$Bed" "kind" "[I" "OysterBeds" ∈ NWL := List.mem_of_getElem? (i := 8) (by decide +kernel)
theorem nw_9 : Cond.fieldLinkNest "OysterBeds$Law" 120 "OysterBeds$Bed" "kind" "[I" "OysterBeds" ∈ NWL := List.mem_of_getElem? (i := 9) (by decide +kernel)
theorem nw_10 : Cond.fieldLinkNest "OysterBeds$Council" 13 "OysterBeds$Bed" "fear" "[I" "OysterBeds" ∈ NWL := List.mem_of_getElem? (i := 10) (by decide +kernel)
theorem nw_11 : Cond.fieldLinkNest "OysterBeds" 122 "OysterBeds$Bed" "fear" "[I" "OysterBeds" ∈ NWL := List.mem_of_getElem? (i := 11) (by decide +kernel)
theorem nw_12 : Cond.fieldLinkNest "OysterBeds$Hearsay" 47 "OysterBeds$Bed" "fear" "[I" "OysterBeds" ∈ NWL := List.mem_of_getElem? (i := 12) (by decide +kernel)
theorem nw_13 : Cond.fieldLinkNest "OysterBeds$Law" 117 "OysterBeds$Bed" "fear" "[I" "OysterBeds" ∈ NWL := List.mem_of_getElem? (i := 13) (by decide +kernel)
theorem nw_14 : Cond.fieldLinkNest "OysterBeds" 125 "OysterBeds$Bed" "view" "[I" "OysterBeds" ∈ NWL := List.mem_of_getElem? (i := 14) (by decide +kernel)
theorem nw_15 : Cond.fieldLinkNest "OysterBeds$Views" 30 "OysterBeds$Bed" "view" "[I" "OysterBeds" ∈ NWL := List.mem_of_getElem? (i := 15) (by decide +kernel)
theorem nw_16 : Cond.fieldLinkNest "OysterBeds$Hearsay" 50 "OysterBeds$Bed" "view" "[I" "OysterBeds" ∈ NWL := List.mem_of_getElem? (i := 16) (by decide +kernel)
theorem nw_17 : Cond.fieldLinkNest "OysterBeds" 128 "OysterBeds$Bed" "shut" "[I" "OysterBeds" ∈ NWL := List.mem_of_getElem? (i := 17) (by decide +kernel)
theorem nw_18 : Cond.fieldLinkNest "OysterBeds$Hearsay" 53 "OysterBeds$Bed" "shut" "[I" "OysterBeds" ∈ NWL := List.mem_of_getElem? (i := 18) (by decide +kernel)
theorem nw_19 : Cond.fieldLinkNest "OysterBeds" 131 "OysterBeds$Bed" "pearl" "[I" "OysterBeds" ∈ NWL := List.mem_of_getElem? (i := 19) (by decide +kernel)
theorem nw_20 : Cond.fieldLinkNest "OysterBeds$Hearsay" 56 "OysterBeds$Bed" "pearl" "[I" "OysterBeds" ∈ NWL := List.mem_of_getElem? (i := 20) (by decide +kernel)
theorem nw_21 : Cond.fieldLinkNest "OysterBeds$Law" 126 "OysterBeds$Bed" "pearl" "[I" "OysterBeds" ∈ NWL := List.mem_of_getElem? (i := 21) (by decide +kernel)
theorem nw_22 : Cond.fieldLinkNest "OysterBeds$Council" 7 "OysterBeds$Bed" "size" "I" "OysterBeds" ∈ NWL := List.mem_of_getElem? (i := 22) (by decide +kernel)
theorem nw_23 : Cond.fieldLinkNest "OysterBeds" 76 "OysterBeds$Bed" "size" "I" "OysterBeds" ∈ NWL := List.mem_of_getElem? (i := 23) (by decide +kernel)
theorem nw_24 : Cond.fieldLinkNest "OysterBeds$Views" 26 "OysterBeds$Bed" "size" "I" "OysterBeds" ∈ NWL := List.mem_of_getElem? (i := 24) (by decide +kernel)
theorem nw_25 : Cond.fieldLinkNest "OysterBeds$Past" 42 "OysterBeds$Bed" "size" "I" "OysterBeds" ∈ NWL := List.mem_of_getElem? (i := 25) (by decide +kernel)
theorem nw_26 : Cond.fieldLinkNest "OysterBeds$Hearsay" 39 "OysterBeds$Bed" "size" "I" "OysterBeds" ∈ NWL := List.mem_of_getElem? (i := 26) (by decide +kernel)
theorem nw_27 : Cond.fieldLinkNest "OysterBeds$Law" 129 "OysterBeds$Bed" "tide" "I" "OysterBeds" ∈ NWL := List.mem_of_getElem? (i := 27) (by decide +kernel)
theorem nw_28 : Cond.fieldLinkNest "OysterBeds" 367 "OysterBeds$Bed" "tide" "I" "OysterBeds" ∈ NWL := List.mem_of_getElem? (i := 28) (by decide +kernel)
theorem nw_29 : Cond.fieldLinkNest "OysterBeds" 370 "OysterBeds$Bed" "asked" "I" "OysterBeds" ∈ NWL := List.mem_of_getElem? (i := 29) (by decide +kernel)
theorem nw_30 : Cond.methodLinkNest "OysterBeds$Past" 24 ⟨"OysterBeds$Bed", "<init>", "()V"⟩ "OysterBeds" ∈ NWL := List.mem_of_getElem? (i := 30) (by decide +kernel)
theorem nw_31 : Cond.fieldLinkNest "OysterBeds" 203 "OysterBeds$Past" "size" "I" "OysterBeds" ∈ NWL := List.mem_of_getElem? (i := 31) (by decide +kernel)
theorem nw_32 : Cond.methodLinkNest "OysterBeds" 42 ⟨"OysterBeds$Sightings", "<init>", "()V"⟩ "OysterBeds" ∈ NWL := List.mem_of_getElem? (i := 32) (by decide +kernel)
theorem nw_33 : Cond.fieldLinkNest "OysterBeds" 373 "OysterBeds$Sightings" "size" "I" "OysterBeds" ∈ NWL := List.mem_of_getElem? (i := 33) (by decide +kernel)
theorem nw_34 : Cond.methodLinkNest "OysterBeds" 49 ⟨"OysterBeds$Hearsay", "<init>", "()V"⟩ "OysterBeds" ∈ NWL := List.mem_of_getElem? (i := 34) (by decide +kernel)
theorem nw_35 : Cond.fieldLinkNest "OysterBeds" 374 "OysterBeds$Hearsay" "size" "I" "OysterBeds" ∈ NWL := List.mem_of_getElem? (i := 35) (by decide +kernel)
theorem nw_36 : Cond.castable "java/util/NoSuchElementException" "java/util/NoSuchElementException" ∈ NWL := List.mem_of_getElem? (i := 36) (by decide +kernel)
theorem nw_37 : Cond.declares ⟨"java/lang/RuntimeException", "<init>", "()V"⟩ ∈ NWL := List.mem_of_getElem? (i := 37) (by decide +kernel)
theorem nw_38 : Cond.declares ⟨"java/lang/RuntimeException", "<init>", "(Ljava/lang/String;)V"⟩ ∈ NWL := List.mem_of_getElem? (i := 38) (by decide +kernel)
theorem nw_39 : Cond.declares ⟨"java/lang/Exception", "<init>", "()V"⟩ ∈ NWL := List.mem_of_getElem? (i := 39) (by decide +kernel)
theorem nw_40 : Cond.declares ⟨"java/lang/Exception", "<init>", "(Ljava/lang/String;)V"⟩ ∈ NWL := List.mem_of_getElem? (i := 40) (by decide +kernel)
theorem nw_41 : Cond.declares ⟨"java/lang/Throwable", "<init>", "()V"⟩ ∈ NWL := List.mem_of_getElem? (i := 41) (by decide +kernel)
theorem nw_42 : Cond.declares ⟨"java/lang/Throwable", "<init>", "(Ljava/lang/String;)V"⟩ ∈ NWL := List.mem_of_getElem? (i := 42) (by decide +kernel)
theorem nw_43 : Cond.castable "OysterBeds" "java/lang/Object" ∈ NWL := List.mem_of_getElem? (i := 43) (by decide +kernel)
theorem nw_44 : Cond.castable "OysterBeds$Text" "java/lang/Object" ∈ NWL := List.mem_of_getElem? (i := 44) (by decide +kernel)
theorem nw_45 : Cond.castable "OysterBeds$Told" "java/lang/Object" ∈ NWL := List.mem_of_getElem? (i := 45) (by decide +kernel)
theorem nw_46 : Cond.castable "OysterBeds$Bed" "java/lang/Object" ∈ NWL := List.mem_of_getElem? (i := 46) (by decide +kernel)
theorem nw_47 : Cond.castable "OysterBeds$Past" "java/lang/Object" ∈ NWL := List.mem_of_getElem? (i := 47) (by decide +kernel)
theorem nw_48 : Cond.castable "OysterBeds$Sightings" "java/lang/Object" ∈ NWL := List.mem_of_getElem? (i := 48) (by decide +kernel)
theorem nw_49 : Cond.castable "OysterBeds$Hearsay" "java/lang/Object" ∈ NWL := List.mem_of_getElem? (i := 49) (by decide +kernel)
theorem nw_50 : Cond.castable "OysterBeds$Law" "java/lang/Object" ∈ NWL := List.mem_of_getElem? (i := 50) (by decide +kernel)
theorem nw_51 : Cond.castable "OysterBedsModel" "java/lang/Object" ∈ NWL := List.mem_of_getElem? (i := 51) (by decide +kernel)
theorem nw_52 : Cond.castable "java/util/NoSuchElementException" "java/lang/Object" ∈ NWL := List.mem_of_getElem? (i := 52) (by decide +kernel)
theorem nw_53 : Cond.castable "java/lang/Throwable" "java/lang/Object" ∈ NWL := List.mem_of_getElem? (i := 53) (by decide +kernel)
theorem nw_54 : Cond.castable "java/lang/String" "java/lang/Object" ∈ NWL := List.mem_of_getElem? (i := 54) (by decide +kernel)
/-- what an ended method leaves -/
def QR (G : gT) (χ σ : St) (rv : Option Value) : Array Value → State → Outcome → State → Prop := fun _ _ o t => o = .returned rv ∧ HH G χ σ t.heap
/-- A CONTRACT: from the world of χ and σ, with these arguments, the answer is rv, the world that of χ' and σ' -/
def Ct (l : Launch) (G : gT) (y : MethodName) (cc : ByteArray) (nL : Nat) (ret : Option FieldType) (fr lo : Nat) (As : List Value) (χ σ : St) (rv : Option Value) (χ' σ' : St) : Prop :=
  Met l y (Cond.code y cc nL ret :: WG) { frames := fr, cells := 0, slots := 0, locals := lo } (va_Pc As (fun U => KK G U ∧ HH G χ σ U.heap)) (QR G χ' σ' rv) 0 0 (gA G)
abbrev rmk (fr lo : Nat) : Room := { frames := fr, cells := 0, slots := 0, locals := lo }
/-- from every heap that holds the world and locals that hold these: the walk from pc comes to Q -/
abbrev Wat (p : Program) (l : Launch) (e : Env) (R : Room) (s : State) (m : MethodId) (args : Array Value) (below : List Frame) (meth : Method) (c : Code) (Q : State → Prop) (G : gT) (nL pc : Nat) (st : List Value) (lv : List (Nat × Value)) (χ σ : St) : Prop :=
  ∀ (H : Heap) (locs : List Loc) (ls : Array Slot), HQ G χ σ H locs → lv_has ls nL lv → W p l e R s m args below meth c H locs 0 0 Q (F0 m pc ls st)
theorem Ct.of {l : Launch} {G : gT} {y : MethodName} {cc : ByteArray} {nL : Nat} {ret : Option FieldType} {fr lo : Nat} {As : List Value} {χ σ : St} {rv : Option Value} {χ' σ' : St} (hy : plainName y.cls = true) (hn : (lg_sl As).length ≤ nL)
    (body : ∀ (p : Program) (e : Env) (s : State) (m : MethodId) (args : Array Value) (below : List Frame) (meth : Method) (c : Code) (Q : State → Prop), FX p m c cc nL s args y.cls G → meth.sig.returnType = ret → meth.locks = false → MQ below (QR G χ' σ' rv) args s 0 0 (gA G) = Q →
      Wat p l e (rmk fr lo) s m args below meth c Q G nL 0 [] (lv_args 0 As) χ σ) : Ct l G y cc nL ret fr lo As χ σ rv χ' σ' := by
  refine Met.ofW (cc := cc) (maxL := nL) (ret := ret) hy rfl ?_
  intro p e s m args below meth c s₁ B hml hv
  obtain ⟨rfl, hK, hH⟩ := hv
  have hts := atoms_spec (ws := Cond.code y cc nL ret :: WG) B.pre
  rw [lg_entry_eq]
  exact body p e s m _ below meth c _ ⟨B.exec, B.bytes, hml, findClass_of_methodNamed B.named, fun w hw => hts w (List.mem_cons_of_mem _ hw), hK⟩ B.returns B.notSynchronized rfl _ _ _ ⟨hH, fun q hq => absurd hq List.not_mem_nil⟩ (lv_entry As hn)
theorem ite_t {α : Type} {c : Prop} [Decidable c] {a b : α} {r : α} (h : (if c then a else b) = r) (hc : c) : a = r := by rw [if_pos hc] at h; exact h
theorem ite_f {α : Type} {c : Prop} [Decidable c] {a b : α} {r : α} (h : (if c then a else b) = r) (hc : ¬ c) : b = r := by rw [if_neg hc] at h; exact h
/-- what a call needs of a method's words -/
def MW (y : MethodName) (cc : ByteArray) (nL : Nat) (ret : Option FieldType) (n : Nat) : Prop :=
  Cond.code y cc nL ret ∈ WG ∧ Cond.initialized y.cls ∈ WG ∧ (y.cls ≠ "java/lang/invoke/MethodHandle" ∧ y.cls ≠ "java/lang/invoke/VarHandle" ∧ (parseMethodDescriptor y.desc).map (fun d => d.parameters.length) = some n)
section TABD
variable {p : Program} {l : Launch} {e : Env} {R : Room} {s : State} {m : MethodId} {args : Array Value} {below : List Frame} {meth : Method} {c : Code} {H : Heap} {locs : List Loc} {cells slots : Nat} {Q : State → Prop}
variable {cc : ByteArray} {pc : Nat} {ls : Array Slot} {rest : List Value}
theorem lv_tabD (hexec : p.tables.exec = Jvm.exec) (hb : c.code = cc) {dflt lo hi : Int} {offs : Array Int} {len : Nat} {x : Int32} {tgt : Nat} (hdg : decode cc pc = .ok (.tableswitch dflt lo hi offs, len)) (h : x.toInt < lo ∨ hi < x.toInt ∨ (¬ x.toInt < lo ∧ ¬ hi < x.toInt ∧ offs[(x.toInt - lo).toNat]? = some dflt)) (ht : (pc : Int) + dflt = (tgt : Int))
    (k : W p l e R s m args below meth c H locs cells slots Q (F0 m tgt ls rest)) : W p l e R s m args below meth c H locs cells slots Q (F0 m pc ls (.int x :: rest)) := by
  rcases h with h | h | ⟨h1, h2, h3⟩
  · exact lv_tableOut hexec hb hdg (Or.inl h) ht k
  · exact lv_tableOut hexec hb hdg (Or.inr h) ht k
  · exact lv_tableIn hexec hb hdg h1 h2 h3 ht k
end TABD
section CROWS
variable {p : Program} {l : Launch} {e : Env} {R : Room} {s : State} {m : MethodId} {args : Array Value} {below : List Frame} {meth : Method} {c : Code} {H : Heap} {locs : List Loc} {cells slots : Nat} {Q : State → Prop}
variable {pc nL : Nat} {ls : Array Slot} {rest st : List Value} {cc : ByteArray} {own : String} {G : gT} {χ σ χ' σ' : St} {lv : List (Nat × Value)}
theorem r_iret {v : Int32} (X : FX p m c cc nL s args own G) (hr : meth.sig.returnType = some .int) (hk : meth.locks = false) (h : HQ G χ σ H locs) (hdg : decode cc pc = .ok (.ireturn, 1)) :
    W p l e R s m args below meth c H locs 0 0 (MQ below (QR G χ σ (some (.int v))) args s 0 0 (gA G)) (F0 m pc ls [.int v]) :=
  W.iret X.1 X.2.1 hr (fun t ht _ => ⟨rfl, by rw [ht]; exact h.1⟩) h.2 hdg hk
theorem r_zret {v : Int32} {ty : FieldType} (X : FX p m c cc nL s args own G) (hr : meth.sig.returnType = some ty) (hn : narrow ty (.int v) = .int v) (hk : meth.locks = false) (h : HQ G χ σ H locs) (hdg : decode cc pc = .ok (.ireturn, 1)) :
    W p l e R s m args below meth c H locs 0 0 (MQ below (QR G χ σ (some (.int v))) args s 0 0 (gA G)) (F0 m pc ls [.int v]) :=
  W.zret X.1 X.2.1 hr hn (fun t ht _ => ⟨rfl, by rw [ht]; exact h.1⟩) h.2 hdg hk
theorem r_lret {v : Int64} (X : FX p m c cc nL s args own G) (hr : meth.sig.returnType = some .long) (hk : meth.locks = false) (h : HQ G χ σ H locs) (hdg : decode cc pc = .ok (.lreturn, 1)) :
    W p l e R s m args below meth c H locs 0 0 (MQ below (QR G χ σ (some (.long v))) args s 0 0 (gA G)) (F0 m pc ls [.long v]) :=
  W.lret X.1 X.2.1 hr (fun t ht _ => ⟨rfl, by rw [ht]; exact h.1⟩) h.2 hdg hk
theorem r_vret (X : FX p m c cc nL s args own G) (hr : meth.sig.returnType = none) (hk : meth.locks = false) (h : HQ G χ σ H locs) (hdg : decode cc pc = .ok (.return_, 1)) :
    W p l e R s m args below meth c H locs 0 0 (MQ below (QR G χ σ none) args s 0 0 (gA G)) (F0 m pc ls []) :=
  W.vret X.1 X.2.1 hr (fun t ht _ => ⟨rfl, by rw [ht]; exact h.1⟩) h.2 hdg hk
theorem pc_blind {As : List Value} {B : State → Prop} (hB : ∀ U V : State, V.vm = U.vm → V.heap = U.heap → B U → B V) : FrameBlind (va_Pc As B) := fun a U g mk h => ⟨h.1, hB U _ rfl rfl h.2⟩
theorem kh_blind {U V : State} (hv : V.vm = U.vm) (hh : V.heap = U.heap) (h : KK G U ∧ HH G χ σ U.heap) : KK G V ∧ HH G χ σ V.heap := ⟨h.1.blind hv, by rw [hh]; exact h.2⟩
theorem cb_of {y : MethodName} {bytes : ByteArray} {maxL n idx fr lo : Nat} {ret : Option FieldType} (X : FX p m c cc nL s args own G) (hM : MW y bytes maxL ret n) (hlk : Cond.methodLink own idx y ∈ WG) (hR : fr + 1 ≤ R.frames ∧ 8 + (maxL + 11) + lo ≤ R.locals) :
    CallB R s args own idx y bytes maxL ret (Cond.code y bytes maxL ret :: WG) { frames := fr, cells := 0, slots := 0, locals := lo } 0 0 n := by
  obtain ⟨hx, hb, hml, hown, hts, hK⟩ := X
  obtain ⟨hc, hi, hd⟩ := hM
  refine ⟨rfl, rfl, hR.1, hR.2, ?_, List.mem_cons_self, hts _ hc, hts _ hi, ⟨hd.1, hd.2.1⟩, fun sig h => ?_, hts _ hlk⟩
  · intro w hw a' U hW
    have hw2 : w ∈ WG := (List.mem_cons.mp hw).elim (fun e => by rw [e]; exact hc) id
    exact word_at hW (good_of_word (wg_good hw2)) (hts w hw2)
  · have h2 := hd.2.2
    rw [h] at h2
    exact (Option.some.inj h2).symm
theorem run_on {As : List Value} {rv : Option Value} (hr : va_Run p l e R s m args below meth c H locs cells slots 0 0 (F0 m pc ls st) rest (QR G χ' σ' rv As.toArray) (gA G)) (h : HQ G χ σ H locs)
    (k : ∀ (H1 : Heap) (locs1 : List Loc), HQ G χ' σ' H1 locs1 → W p l e R s m args below meth c H1 locs1 cells slots Q (F0 m (pc + 3) ls (rv.toList ++ rest))) : W p l e R s m args below meth c H locs cells slots Q (F0 m pc ls st) := by
  intro T hT X'
  obtain ⟨v, st₀, t, T', L, h0, X'', hL, e1, e2, ⟨hv, hH⟩, hg⟩ := hr T hT X'
  cases hv
  obtain ⟨t2, a1, b1⟩ := k T'.heap (locs ++ L) ⟨by rw [e1]; exact hH, fun q hq => (List.mem_append.mp hq).elim (h.2 q) (hL q)⟩ T' rfl X''
  exact ⟨t2, hg t2 a1, b1⟩
theorem r_callV {y : MethodName} {bytes : ByteArray} {maxL n idx fr lo b : Nat} {ret : Option FieldType} {As : List Value} {rv : Option Value} (X : FX p m c cc nL s args own G) (h : HQ G χ σ H locs) (hl : lv_has ls nL lv) (hM : MW y bytes maxL ret n) (hi : Cond.instanceMethod y ∈ WG) (hs : Cond.selects y.cls y y ∈ WG) (hlk : Cond.methodLink own idx y ∈ WG)
    (hC : Ct l G y bytes maxL ret fr lo (.ref b :: As) χ σ rv χ' σ') (hrc : ∃ cell : Cell, H[b]? = some cell ∧ cell.vm.isStatics = false ∧ s.vm.findClass y.cls = some cell.cls) (hn : As.length = n) (hR : fr + 1 ≤ R.frames ∧ 8 + (maxL + 11) + lo ≤ R.locals) (hf : cells ≤ R.cells ∧ slots ≤ R.slots)
    (hst : st = As.reverse ++ .ref b :: rest) {st' : List Value} (hst' : rv.toList ++ rest = st') (hW : (rest.map fun v => v.category).sum ≤ 8) (hdg : decode cc pc = .ok (.invokevirtual idx, 3))
    (k : ∀ (H1 : Heap) (locs1 : List Loc), HQ G χ' σ' H1 locs1 → W p l e R s m args below meth c H1 locs1 cells slots Q (F0 m (pc + 3) ls st')) : W p l e R s m args below meth c H locs cells slots Q (F0 m pc ls st) := by
  subst hst'
  refine run_on (As := .ref b :: As) (va_runV (As := As) (rest := rest) ⟨X.1, X.2.1, X.2.2.1, X.2.2.2.1, X.2.2.2.2.1⟩ hC ⟨cb_of X hM hlk hR, X.2.2.2.2.1 _ hi, X.2.2.2.2.1 _ hs⟩ ⟨pc_blind (fun U V hv hh q => kh_blind hv hh q), hrc, fun U hU hWm => ⟨rfl, X.2.2.2.2.2.warm hWm, by rw [hU]; exact h.1⟩⟩ rfl hn hl.1 hst (lv_room hW) hdg hf) h k
theorem r_callS {y : MethodName} {bytes : ByteArray} {maxL n idx fr lo : Nat} {ret : Option FieldType} {As : List Value} {rv : Option Value} (X : FX p m c cc nL s args own G) (h : HQ G χ σ H locs) (hl : lv_has ls nL lv) (hM : MW y bytes maxL ret n) (hi : Cond.static y ∈ WG) (hlk : Cond.methodLink own idx y ∈ WG)
    (hC : Ct l G y bytes maxL ret fr lo As χ σ rv χ' σ') (hn : As.length = n) (hR : fr + 1 ≤ R.frames ∧ 8 + (maxL + 11) + lo ≤ R.locals) (hf : cells ≤ R.cells ∧ slots ≤ R.slots)
    (hst : st = As.reverse ++ rest) {st' : List Value} (hst' : rv.toList ++ rest = st') (hW : (rest.map fun v => v.category).sum ≤ 8) (hdg : decode cc pc = .ok (.invokestatic idx, 3))
    (k : ∀ (H1 : Heap) (locs1 : List Loc), HQ G χ' σ' H1 locs1 → W p l e R s m args below meth c H1 locs1 cells slots Q (F0 m (pc + 3) ls st')) : W p l e R s m args below meth c H locs cells slots Q (F0 m pc ls st) := by
  subst hst'
  refine run_on (As := As) (va_runS (As := As) (rest := rest) ⟨X.1, X.2.1, X.2.2.1, X.2.2.2.1, X.2.2.2.2.1⟩ hC ⟨cb_of X hM hlk hR, X.2.2.2.2.1 _ hi⟩ ⟨pc_blind (fun U V hv hh q => kh_blind hv hh q), fun U hU hWm => ⟨rfl, X.2.2.2.2.2.warm hWm, by rw [hU]; exact h.1⟩⟩ rfl hn hl.1 hst (lv_room hW) hdg hf) h k
theorem r_geti {P ci N j idx : Nat} {C : String} {T : u_T} {ty : Nat → FieldType} (X : FX p m c cc nL s args own G) (h : HQ G χ σ H locs) (hT : CT ci C T N ty) (hO : OP G P ci N) (hP : P < 300) (hI : pI ci j = true) (hj : j < N) (hlk : Cond.fieldLink own idx C (T j).2.1 (T j).2.2.1 ∈ WG) (hdg : decode cc pc = .ok (.getfield idx, 3))
    (k : W p l e R s m args below meth c H locs cells slots Q (F0 m (pc + 3) ls (.int (cF χ P j) :: rest))) : W p l e R s m args below meth c H locs cells slots Q (F0 m pc ls (.ref (ga G P) :: rest)) :=
  gr_getf X h hT hO hj hlk (ev_int hO hI (mF_c hP)) hdg k
theorem m_geti {P ci N j idx : Nat} {C : String} {T : u_T} {ty : Nat → FieldType} (X : FX p m c cc nL s args own G) (h : HQ G χ σ H locs) (hT : CT ci C T N ty) (hO : OP G P ci N) (hP : 300 ≤ P) (hI : pI ci j = true) (hj : j < N) (hlk : Cond.fieldLink own idx C (T j).2.1 (T j).2.2.1 ∈ WG) (hdg : decode cc pc = .ok (.getfield idx, 3))
    (k : W p l e R s m args below meth c H locs cells slots Q (F0 m (pc + 3) ls (.int (cF σ P j) :: rest))) : W p l e R s m args below meth c H locs cells slots Q (F0 m pc ls (.ref (ga G P) :: rest)) :=
  gr_getf X h hT hO hj hlk (ev_int hO hI (mF_m hP)) hdg k
theorem r_getr {P ci N j idx q : Nat} {C : String} {T : u_T} {ty : Nat → FieldType} (X : FX p m c cc nL s args own G) (h : HQ G χ σ H locs) (hT : CT ci C T N ty) (hO : OP G P ci N) (hI : pI ci j = false) (hj : j < N) (hq : rt (cW χ) P j = q) (hlk : Cond.fieldLink own idx C (T j).2.1 (T j).2.2.1 ∈ WG) (hdg : decode cc pc = .ok (.getfield idx, 3))
    (k : W p l e R s m args below meth c H locs cells slots Q (F0 m (pc + 3) ls (.ref (ga G q) :: rest))) : W p l e R s m args below meth c H locs cells slots Q (F0 m pc ls (.ref (ga G P) :: rest)) :=
  gr_getf X h hT hO hj hlk (ev_ref hO hI hq) hdg k
theorem r_getiN {P ci N j idx : Nat} {C host : String} {T : u_T} {ty : Nat → FieldType} (X : FX p m c cc nL s args own G) (h : HQ G χ σ H locs) (hT : CT ci C T N ty) (hO : OP G P ci N) (hP : P < 300) (hI : pI ci j = true) (hj : j < N) (hlk : Cond.fieldLinkNest own idx C (T j).2.1 (T j).2.2.1 host ∈ NWL) (hdg : decode cc pc = .ok (.getfield idx, 3))
    (k : W p l e R s m args below meth c H locs cells slots Q (F0 m (pc + 3) ls (.int (cF χ P j) :: rest))) : W p l e R s m args below meth c H locs cells slots Q (F0 m pc ls (.ref (ga G P) :: rest)) :=
  gr_getN X h hT hO hj hlk (ev_int hO hI (mF_c hP)) hdg k
theorem r_getrN {P ci N j idx q : Nat} {C host : String} {T : u_T} {ty : Nat → FieldType} (X : FX p m c cc nL s args own G) (h : HQ G χ σ H locs) (hT : CT ci C T N ty) (hO : OP G P ci N) (hI : pI ci j = false) (hj : j < N) (hq : rt (cW χ) P j = q) (hlk : Cond.fieldLinkNest own idx C (T j).2.1 (T j).2.2.1 host ∈ NWL) (hdg : decode cc pc = .ok (.getfield idx, 3))
    (k : W p l e R s m args below meth c H locs cells slots Q (F0 m (pc + 3) ls (.ref (ga G q) :: rest))) : W p l e R s m args below meth c H locs cells slots Q (F0 m pc ls (.ref (ga G P) :: rest)) :=
  gr_getN X h hT hO hj hlk (ev_ref hO hI hq) hdg k
theorem r_puti {P ci N j idx : Nat} {x : Int32} {C : String} {T : u_T} {ty : Nat → FieldType} (X : FX p m c cc nL s args own G) (h : HQ G χ σ H locs) (hT : CT ci C T N ty) (hO : OP G P ci N) (hP : P < 300) (hI : pI ci j = true) (hj : j < N) (hf : (T j).2.2.2 = false) (hn : narrow (ty j) (.int x) = .int x) (hfit : fits (ty j) (.int x) = true) (hlk : Cond.fieldLink own idx C (T j).2.1 (T j).2.2.1 ∈ WG) (hdg : decode cc pc = .ok (.putfield idx, 3))
    (k : ∀ (H1 : Heap) (locs1 : List Loc), HQ G (sF χ P j x) σ H1 locs1 → W p l e R s m args below meth c H1 locs1 cells slots Q (F0 m (pc + 3) ls rest)) : W p l e R s m args below meth c H locs cells slots Q (F0 m pc ls (.int x :: .ref (ga G P) :: rest)) :=
  gr_putf X h hT hO hj hlk hI hf hn hfit hdg (fun H1 locs1 h1 => k H1 locs1 (by rw [up2_mF_c hP] at h1; exact h1))
theorem m_puti {P ci N j idx : Nat} {x : Int32} {C : String} {T : u_T} {ty : Nat → FieldType} (X : FX p m c cc nL s args own G) (h : HQ G χ σ H locs) (hT : CT ci C T N ty) (hO : OP G P ci N) (hP : 300 ≤ P) (hI : pI ci j = true) (hj : j < N) (hf : (T j).2.2.2 = false) (hn : narrow (ty j) (.int x) = .int x) (hfit : fits (ty j) (.int x) = true) (hlk : Cond.fieldLink own idx C (T j).2.1 (T j).2.2.1 ∈ WG) (hdg : decode cc pc = .ok (.putfield idx, 3))
    (k : ∀ (H1 : Heap) (locs1 : List Loc), HQ G χ (sF σ P j x) H1 locs1 → W p l e R s m args below meth c H1 locs1 cells slots Q (F0 m (pc + 3) ls rest)) : W p l e R s m args below meth c H locs cells slots Q (F0 m pc ls (.int x :: .ref (ga G P) :: rest)) :=
  gr_putf X h hT hO hj hlk hI hf hn hfit hdg (fun H1 locs1 h1 => k H1 locs1 (by rw [up2_mF_m hP] at h1; exact h1))
theorem r_putiN {P ci N j idx : Nat} {x : Int32} {C host : String} {T : u_T} {ty : Nat → FieldType} (X : FX p m c cc nL s args own G) (h : HQ G χ σ H locs) (hT : CT ci C T N ty) (hO : OP G P ci N) (hP : P < 300) (hI : pI ci j = true) (hj : j < N) (hf : (T j).2.2.2 = false) (hn : narrow (ty j) (.int x) = .int x) (hfit : fits (ty j) (.int x) = true) (hlk : Cond.fieldLinkNest own idx C (T j).2.1 (T j).2.2.1 host ∈ NWL) (hdg : decode cc pc = .ok (.putfield idx, 3))
    (k : ∀ (H1 : Heap) (locs1 : List Loc), HQ G (sF χ P j x) σ H1 locs1 → W p l e R s m args below meth c H1 locs1 cells slots Q (F0 m (pc + 3) ls rest)) : W p l e R s m args below meth c H locs cells slots Q (F0 m pc ls (.int x :: .ref (ga G P) :: rest)) :=
  gr_putN X h hT hO hj hlk hI hf hn hfit hdg (fun H1 locs1 h1 => k H1 locs1 (by rw [up2_mF_c hP] at h1; exact h1))
theorem r_iald {P N : Nat} {i : Int32} (X : FX p m c cc nL s args own G) (h : HQ G χ σ H locs) (hO : OP G P 11 N) (hP : P < 300) (hin : inb i N = true) (hdg : decode cc pc = .ok (.iaload, 1))
    (k : W p l e R s m args below meth c H locs cells slots Q (F0 m (pc + 1) ls (.int (cA χ P i.toNatClampNeg) :: rest))) : W p l e R s m args below meth c H locs cells slots Q (F0 m pc ls (.int i :: .ref (ga G P) :: rest)) :=
  gr_iald X h hO (inb_in hin) hdg (by rw [mA_c hP]; exact k)
theorem m_iald {P N : Nat} {i : Int32} (X : FX p m c cc nL s args own G) (h : HQ G χ σ H locs) (hO : OP G P 11 N) (hP : 300 ≤ P) (hin : inb i N = true) (hdg : decode cc pc = .ok (.iaload, 1))
    (k : W p l e R s m args below meth c H locs cells slots Q (F0 m (pc + 1) ls (.int (cA σ P i.toNatClampNeg) :: rest))) : W p l e R s m args below meth c H locs cells slots Q (F0 m pc ls (.int i :: .ref (ga G P) :: rest)) :=
  gr_iald X h hO (inb_in hin) hdg (by rw [mA_m hP]; exact k)
theorem r_zald {P N : Nat} {i : Int32} (X : FX p m c cc nL s args own G) (h : HQ G χ σ H locs) (hO : OP G P 13 N) (hP : P < 300) (hin : inb i N = true) (hdg : decode cc pc = .ok (.baload, 1))
    (k : W p l e R s m args below meth c H locs cells slots Q (F0 m (pc + 1) ls (.int (cA χ P i.toNatClampNeg) :: rest))) : W p l e R s m args below meth c H locs cells slots Q (F0 m pc ls (.int i :: .ref (ga G P) :: rest)) :=
  gr_zald X h hO (inb_in hin) hdg (by rw [mA_c hP]; exact k)
theorem m_zald {P N : Nat} {i : Int32} (X : FX p m c cc nL s args own G) (h : HQ G χ σ H locs) (hO : OP G P 13 N) (hP : 300 ≤ P) (hin : inb i N = true) (hdg : decode cc pc = .ok (.baload, 1))
    (k : W p l e R s m args below meth c H locs cells slots Q (F0 m (pc + 1) ls (.int (cA σ P i.toNatClampNeg) :: rest))) : W p l e R s m args below meth c H locs cells slots Q (F0 m pc ls (.int i :: .ref (ga G P) :: rest)) :=
  gr_zald X h hO (inb_in hin) hdg (by rw [mA_m hP]; exact k)
theorem r_cald {P N : Nat} {i : Int32} (X : FX p m c cc nL s args own G) (h : HQ G χ σ H locs) (hO : OP G P 10 N) (hP : P < 300) (hin : inb i N = true) (hdg : decode cc pc = .ok (.caload, 1))
    (k : W p l e R s m args below meth c H locs cells slots Q (F0 m (pc + 1) ls (.int (cA χ P i.toNatClampNeg) :: rest))) : W p l e R s m args below meth c H locs cells slots Q (F0 m pc ls (.int i :: .ref (ga G P) :: rest)) :=
  gr_cald X h hO (inb_in hin) hdg (by rw [mA_c hP]; exact k)
theorem r_lald {P N : Nat} {i : Int32} (X : FX p m c cc nL s args own G) (h : HQ G χ σ H locs) (hO : OP G P 12 N) (hP : P < 300) (hin : inb i N = true) (hdg : decode cc pc = .ok (.laload, 1))
    (k : W p l e R s m args below meth c H locs cells slots Q (F0 m (pc + 1) ls (.long (cL χ P i.toNatClampNeg) :: rest))) : W p l e R s m args below meth c H locs cells slots Q (F0 m pc ls (.int i :: .ref (ga G P) :: rest)) :=
  gr_lald X h hO (inb_in hin) hdg (by rw [mL_c hP]; exact k)
theorem m_lald {P N : Nat} {i : Int32} (X : FX p m c cc nL s args own G) (h : HQ G χ σ H locs) (hO : OP G P 12 N) (hP : 300 ≤ P) (hin : inb i N = true) (hdg : decode cc pc = .ok (.laload, 1))
    (k : W p l e R s m args below meth c H locs cells slots Q (F0 m (pc + 1) ls (.long (cL σ P i.toNatClampNeg) :: rest))) : W p l e R s m args below meth c H locs cells slots Q (F0 m pc ls (.int i :: .ref (ga G P) :: rest)) :=
  gr_lald X h hO (inb_in hin) hdg (by rw [mL_m hP]; exact k)
theorem r_aald {P N : Nat} {i : Int32} (X : FX p m c cc nL s args own G) (h : HQ G χ σ H locs) (hO : OP G P 14 N) (hin : inb i N = true) (hdg : decode cc pc = .ok (.aaload, 1))
    (k : W p l e R s m args below meth c H locs cells slots Q (F0 m (pc + 1) ls (.ref (ga G (bt P i.toNatClampNeg)) :: rest))) : W p l e R s m args below meth c H locs cells slots Q (F0 m pc ls (.int i :: .ref (ga G P) :: rest)) :=
  gr_aald X h hO (inb_in hin) hdg k
theorem r_iast {P N : Nat} {i x : Int32} (X : FX p m c cc nL s args own G) (h : HQ G χ σ H locs) (hO : OP G P 11 N) (hP : P < 300) (hin : inb i N = true) (hdg : decode cc pc = .ok (.iastore, 1))
    (k : ∀ (H1 : Heap) (locs1 : List Loc), HQ G (sA χ P i.toNatClampNeg x) σ H1 locs1 → W p l e R s m args below meth c H1 locs1 cells slots Q (F0 m (pc + 1) ls rest)) : W p l e R s m args below meth c H locs cells slots Q (F0 m pc ls (.int x :: .int i :: .ref (ga G P) :: rest)) :=
  gr_iast X h hO (inb_in hin) hdg (fun H1 locs1 h1 => k H1 locs1 (by rw [up2_mA_c hP] at h1; exact h1))
theorem m_iast {P N : Nat} {i x : Int32} (X : FX p m c cc nL s args own G) (h : HQ G χ σ H locs) (hO : OP G P 11 N) (hP : 300 ≤ P) (hin : inb i N = true) (hdg : decode cc pc = .ok (.iastore, 1))
    (k : ∀ (H1 : Heap) (locs1 : List Loc), HQ G χ (sA σ P i.toNatClampNeg x) H1 locs1 → W p l e R s m args below meth c H1 locs1 cells slots Q (F0 m (pc + 1) ls rest)) : W p l e R s m args below meth c H locs cells slots Q (F0 m pc ls (.int x :: .int i :: .ref (ga G P) :: rest)) :=
  gr_iast X h hO (inb_in hin) hdg (fun H1 locs1 h1 => k H1 locs1 (by rw [up2_mA_m hP] at h1; exact h1))
theorem r_zast {P N : Nat} {i x : Int32} (X : FX p m c cc nL s args own G) (h : HQ G χ σ H locs) (hO : OP G P 13 N) (hP : P < 300) (hin : inb i N = true) (hdg : decode cc pc = .ok (.bastore, 1))
    (k : ∀ (H1 : Heap) (locs1 : List Loc), HQ G (sA χ P i.toNatClampNeg (vp_nar .boolean x)) σ H1 locs1 → W p l e R s m args below meth c H1 locs1 cells slots Q (F0 m (pc + 1) ls rest)) : W p l e R s m args below meth c H locs cells slots Q (F0 m pc ls (.int x :: .int i :: .ref (ga G P) :: rest)) :=
  gr_zast X h hO (inb_in hin) hdg (fun H1 locs1 h1 => k H1 locs1 (by rw [up2_mA_c hP] at h1; exact h1))
theorem m_zast {P N : Nat} {i x : Int32} (X : FX p m c cc nL s args own G) (h : HQ G χ σ H locs) (hO : OP G P 13 N) (hP : 300 ≤ P) (hin : inb i N = true) (hdg : decode cc pc = .ok (.bastore, 1))
    (k : ∀ (H1 : Heap) (locs1 : List Loc), HQ G χ (sA σ P i.toNatClampNeg (vp_nar .boolean x)) H1 locs1 → W p l e R s m args below meth c H1 locs1 cells slots Q (F0 m (pc + 1) ls rest)) : W p l e R s m args below meth c H locs cells slots Q (F0 m pc ls (.int x :: .int i :: .ref (ga G P) :: rest)) :=
  gr_zast X h hO (inb_in hin) hdg (fun H1 locs1 h1 => k H1 locs1 (by rw [up2_mA_m hP] at h1; exact h1))
theorem r_cast {P N : Nat} {i x : Int32} (X : FX p m c cc nL s args own G) (h : HQ G χ σ H locs) (hO : OP G P 10 N) (hP : P < 300) (hin : inb i N = true) (hdg : decode cc pc = .ok (.castore, 1))
    (k : ∀ (H1 : Heap) (locs1 : List Loc), HQ G (sA χ P i.toNatClampNeg (vp_nar .char x)) σ H1 locs1 → W p l e R s m args below meth c H1 locs1 cells slots Q (F0 m (pc + 1) ls rest)) : W p l e R s m args below meth c H locs cells slots Q (F0 m pc ls (.int x :: .int i :: .ref (ga G P) :: rest)) :=
  gr_cast X h hO (inb_in hin) hdg (fun H1 locs1 h1 => k H1 locs1 (by rw [up2_mA_c hP] at h1; exact h1))
theorem r_last {P N : Nat} {i : Int32} {x : Int64} (X : FX p m c cc nL s args own G) (h : HQ G χ σ H locs) (hO : OP G P 12 N) (hP : P < 300) (hin : inb i N = true) (hdg : decode cc pc = .ok (.lastore, 1))
    (k : ∀ (H1 : Heap) (locs1 : List Loc), HQ G (sL χ P i.toNatClampNeg x) σ H1 locs1 → W p l e R s m args below meth c H1 locs1 cells slots Q (F0 m (pc + 1) ls rest)) : W p l e R s m args below meth c H locs cells slots Q (F0 m pc ls (.long x :: .int i :: .ref (ga G P) :: rest)) :=
  gr_last X h hO (inb_in hin) hdg (fun H1 locs1 h1 => k H1 locs1 (by rw [up3_mL_c hP] at h1; exact h1))
theorem m_last {P N : Nat} {i : Int32} {x : Int64} (X : FX p m c cc nL s args own G) (h : HQ G χ σ H locs) (hO : OP G P 12 N) (hP : 300 ≤ P) (hin : inb i N = true) (hdg : decode cc pc = .ok (.lastore, 1))
    (k : ∀ (H1 : Heap) (locs1 : List Loc), HQ G χ (sL σ P i.toNatClampNeg x) H1 locs1 → W p l e R s m args below meth c H1 locs1 cells slots Q (F0 m (pc + 1) ls rest)) : W p l e R s m args below meth c H locs cells slots Q (F0 m pc ls (.long x :: .int i :: .ref (ga G P) :: rest)) :=
  gr_last X h hO (inb_in hin) hdg (fun H1 locs1 h1 => k H1 locs1 (by rw [up3_mL_m hP] at h1; exact h1))
theorem r_recv {P ci N : Nat} {C : String} {T : u_T} {ty : Nat → FieldType} (X : FX p m c cc nL s args own G) (h : HQ G χ σ H locs) (hT : CT ci C T N ty) (hO : OP G P ci N) : ∃ cell : Cell, H[ga G P]? = some cell ∧ cell.vm.isStatics = false ∧ s.vm.findClass C = some cell.cls := gr_recv X.2.2.2.2.2 h hT hO
theorem r_max {idx : Nat} {x y : Int32} (X : FX p m c cc nL s args own G) (hl : lv_has ls nL lv) (hlk : Cond.methodLink own idx ⟨"java/lang/Math", "max", "(II)I"⟩ ∈ WG) (hR : 1 ≤ R.frames ∧ (rest.map fun v => v.category).sum + 13 ≤ R.locals) (hf : cells ≤ R.cells ∧ slots ≤ R.slots) (hdg : decode cc pc = .ok (.invokestatic idx, 3))
    (k : W p l e R s m args below meth c H locs cells slots Q (F0 m (pc + 3) ls (.int (if x < y then y else x) :: rest))) : W p l e R s m args below meth c H locs cells slots Q (F0 m pc ls (.int y :: .int x :: rest)) :=
  va_mmax X.1 X.2.1 (X.2.2.1.trans hl.1.symm) X.2.2.2.1 (X.2.2.2.2.1 _ hlk) (X.2.2.2.2.1 _ wd_223) (X.2.2.2.2.1 _ wd_9) (X.2.2.2.2.1 _ wd_224) hR.1 hR.2 hf.1 hf.2 hdg k
theorem r_min {idx : Nat} {x y : Int32} (X : FX p m c cc nL s args own G) (hl : lv_has ls nL lv) (hlk : Cond.methodLink own idx ⟨"java/lang/Math", "min", "(II)I"⟩ ∈ WG) (hR : 1 ≤ R.frames ∧ (rest.map fun v => v.category).sum + 13 ≤ R.locals) (hf : cells ≤ R.cells ∧ slots ≤ R.slots) (hdg : decode cc pc = .ok (.invokestatic idx, 3))
    (k : W p l e R s m args below meth c H locs cells slots Q (F0 m (pc + 3) ls (.int (if y < x then y else x) :: rest))) : W p l e R s m args below meth c H locs cells slots Q (F0 m pc ls (.int y :: .int x :: rest)) :=
  va_mmin X.1 X.2.1 (X.2.2.1.trans hl.1.symm) X.2.2.2.1 (X.2.2.2.2.1 _ hlk) (X.2.2.2.2.1 _ wd_317) (X.2.2.2.2.1 _ wd_9) (X.2.2.2.2.1 _ wd_318) hR.1 hR.2 hf.1 hf.2 hdg k
theorem r_abs {idx : Nat} {x : Int32} (X : FX p m c cc nL s args own G) (hl : lv_has ls nL lv) (hlk : Cond.methodLink own idx ⟨"java/lang/Math", "abs", "(I)I"⟩ ∈ WG) (hR : 1 ≤ R.frames ∧ (rest.map fun v => v.category).sum + 13 ≤ R.locals) (hf : cells ≤ R.cells ∧ slots ≤ R.slots) (hdg : decode cc pc = .ok (.invokestatic idx, 3))
    (k : W p l e R s m args below meth c H locs cells slots Q (F0 m (pc + 3) ls (.int (if 0 ≤ x then x else 0 - x) :: rest))) : W p l e R s m args below meth c H locs cells slots Q (F0 m pc ls (.int x :: rest)) :=
  va_mabs X.1 X.2.1 (X.2.2.1.trans hl.1.symm) X.2.2.2.1 (X.2.2.2.2.1 _ hlk) (X.2.2.2.2.1 _ wd_660) (X.2.2.2.2.1 _ wd_9) (X.2.2.2.2.1 _ wd_661) hR.1 hR.2 hf.1 hf.2 hdg k
theorem r_ldc {idx : Nat} {v : Int32} (X : FX p m c cc nL s args own G) (hk : Cond.constant own idx v ∈ WG) (hdg : decode cc pc = .ok (.ldc idx, 2)) (k : W p l e R s m args below meth c H locs cells slots Q (F0 m (pc + 2) ls (.int v :: rest))) : W p l e R s m args below meth c H locs cells slots Q (F0 m pc ls rest) :=
  lv_ldc X.1 X.2.1 X.2.2.2.1 (X.2.2.2.2.1 _ hk) hdg k
theorem r_ldcw {idx : Nat} {v : Int32} (X : FX p m c cc nL s args own G) (hk : Cond.constant own idx v ∈ WG) (hdg : decode cc pc = .ok (.ldc_w idx, 3)) (k : W p l e R s m args below meth c H locs cells slots Q (F0 m (pc + 3) ls (.int v :: rest))) : W p l e R s m args below meth c H locs cells slots Q (F0 m pc ls rest) :=
  lv_ldcw X.1 X.2.1 X.2.2.2.1 (X.2.2.2.2.1 _ hk) hdg k
theorem r_ldc2 {idx : Nat} {v : Int64} (X : FX p m c cc nL s args own G) (hk : Cond.constantLong own idx v ∈ WG) (hdg : decode cc pc = .ok (.ldc2_w idx, 3)) (k : W p l e R s m args below meth c H locs cells slots Q (F0 m (pc + 3) ls (.long v :: rest))) : W p l e R s m args below meth c H locs cells slots Q (F0 m pc ls rest) :=
  lv_ldc2 X.1 X.2.1 X.2.2.2.1 (X.2.2.2.2.1 _ hk) hdg k
theorem r_aT {t N : Nat} {i v : Int32} {f : List Int32} (X : FX p m c cc nL s args own G) (hT : va_T .int t N (fun j => .int (f.getD j 0)) (gA G) s (gH G)) (h : HQ G χ σ H locs) (hin : inb i N = true) (hv : f.getD i.toNatClampNeg 0 = v) (hdg : decode cc pc = .ok (.iaload, 1)) (k : W p l e R s m args below meth c H locs cells slots Q (F0 m (pc + 1) ls (.int v :: rest))) : W p l e R s m args below meth c H locs cells slots Q (F0 m pc ls (.int i :: .ref t :: rest)) := by
  obtain ⟨cell, h1, h2, h3, h4, h5, h6, h7⟩ := hT
  have hlt := inb_lt hin
  have hin2 := inb_in hin
  exact W.iald (v := .int v) X.1 X.2.1 (by rw [h.1.2.2.1 t (Array.getElem?_eq_some_iff.mp h1).1 h7]; exact h1) h2 h3 (fun q => q.elim (fun z => hin2 (Or.inl z)) (fun z => by omega)) (by rw [h6 _ hlt]; show some (Value.int (f.getD i.toNatClampNeg 0)) = _; rw [hv]) rfl rfl hdg k
theorem r_aTc {t N : Nat} {i v : Int32} {f : List Int32} (X : FX p m c cc nL s args own G) (hT : va_T .char t N (fun j => .int (f.getD j 0)) (gA G) s (gH G)) (h : HQ G χ σ H locs) (hin : inb i N = true) (hv : f.getD i.toNatClampNeg 0 = v) (hdg : decode cc pc = .ok (.caload, 1)) (k : W p l e R s m args below meth c H locs cells slots Q (F0 m (pc + 1) ls (.int v :: rest))) : W p l e R s m args below meth c H locs cells slots Q (F0 m pc ls (.int i :: .ref t :: rest)) := by
  obtain ⟨cell, h1, h2, h3, h4, h5, h6, h7⟩ := hT
  have hlt := inb_lt hin
  have hin2 := inb_in hin
  exact W.cald (v := .int v) X.1 X.2.1 (by rw [h.1.2.2.1 t (Array.getElem?_eq_some_iff.mp h1).1 h7]; exact h1) h2 h3 (fun q => q.elim (fun z => hin2 (Or.inl z)) (fun z => by omega)) (by rw [h6 _ hlt]; show some (Value.int (f.getD i.toNatClampNeg 0)) = _; rw [hv]) rfl rfl hdg k
theorem r_aTn {t N : Nat} {v : Int32} {ty : FieldType} {f : Nat → Value} (X : FX p m c cc nL s args own G) (hT : va_T ty t N f (gA G) s (gH G)) (h : HQ G χ σ H locs) (hv : Int32.ofNat N = v) (hdg : decode cc pc = .ok (.arraylength, 1)) (k : W p l e R s m args below meth c H locs cells slots Q (F0 m (pc + 1) ls (.int v :: rest))) : W p l e R s m args below meth c H locs cells slots Q (F0 m pc ls (.ref t :: rest)) := by
  subst hv
  obtain ⟨cell, h1, h2, h3, h4, h5, h6, h7⟩ := hT
  exact W.alen (n := Int32.ofNat N) X.1 X.2.1 (by rw [h.1.2.2.1 t (Array.getElem?_eq_some_iff.mp h1).1 h7]; exact h1) h2 h5 rfl rfl hdg k
theorem r_gets {C n d : String} {v : Value} {idx : Nat} (X : FX p m c cc nL s args own G) (hZ : va_Z C n d v (gA G) s (gH G)) (h : HQ G χ σ H locs) (hlk : Cond.fieldLink own idx C n d ∈ WG) (hdg : decode cc pc = .ok (.getstatic idx, 3)) (k : W p l e R s m args below meth c H locs cells slots Q (F0 m (pc + 3) ls (v :: rest))) : W p l e R s m args below meth c H locs cells slots Q (F0 m pc ls rest) := by
  obtain ⟨cf, kf, fi, f, a, cell, h1, h2, h3, h4, h5, h6, h7, h8⟩ := hZ
  exact W.gets X.1 X.2.1 X.2.2.2.1 (X.2.2.2.2.1 _ hlk) h1 h2 h3 h4 (by rw [h.1.2.2.1 a (Array.getElem?_eq_some_iff.mp h5).1 h8]; exact h5) (fun e => by rw [e] at h6; cases h6) h7 rfl hdg k
end CROWS
