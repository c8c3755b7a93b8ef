/-! LAYER 2: what both systems hold. A bed: how many, numbers (0 kind, 1 fear, 2 view, 3 shut, 4 pearl), tide, asked. -/
abbrev Bd_ : Type := Nat × (Nat → Nat → Nat) × Int32 × Int32
def WB (B : Bd_) : Prop := B.1 ≤ 8 ∧ ∀ k, k < B.1 → B.2.1 0 k ≤ 2 ∧ B.2.1 1 k ≤ 9 ∧ B.2.1 2 k ≤ 15 ∧ B.2.1 3 k ≤ 9 ∧ B.2.1 4 k ≤ 99
def BC_ (b : Nat) (B : Bd_) (χ : St) : Prop := cF χ b 5 = nI B.1 ∧ cF χ b 6 = B.2.2.1 ∧ cF χ b 7 = B.2.2.2 ∧ ∀ k, k < B.1 → cA χ (b + 1) k = nI (B.2.1 0 k) ∧ cA χ (b + 2) k = nI (B.2.1 1 k) ∧ cA χ (b + 3) k = nI (B.2.1 2 k) ∧ cA χ (b + 4) k = nI (B.2.1 3 k) ∧ cA χ (b + 5) k = nI (B.2.1 4 k)
def BR (r o : Nat) (B : Bd_) (σ : St) : Prop := cF σ 300 3 = nI B.1 ∧ cA σ r (o + 32) = B.2.2.1 ∧ cA σ r (o + 33) = B.2.2.2 ∧ (∀ k, k < B.1 → cA σ 305 k = nI (B.2.1 0 k) ∧ cA σ r (o + k) = nI (B.2.1 1 k) ∧ cA σ r (o + (8 + k)) = nI (B.2.1 2 k) ∧ cA σ r (o + (16 + k)) = nI (B.2.1 3 k) ∧ cA σ r (o + (24 + k)) = nI (B.2.1 4 k)) ∧ ∀ k, B.1 ≤ k → k < 8 → cA σ r (o + (16 + k)) = 0 ∧ cA σ r (o + (24 + k)) = 0
def RT (T : Nat × (Nat → Nat)) (χ σ : St) : Prop := T.1 ≤ 80 ∧ cF χ 1 1 = nI T.1 ∧ cF σ 300 9 = nI T.1 ∧ ∀ i, i < T.1 → T.2 i < 256 ∧ cA χ 2 i = nI (T.2 i) ∧ cA σ 308 i = nI (T.2 i)
def RO (m : Nat) (χ σ : St) : Prop := m ≤ 12 ∧ cF χ 3 1 = nI m ∧ cF σ 300 1 = nI m ∧ ∀ i, i < m → cL χ 4 i = cL σ 302 i
def RU (n : Nat) (χ σ : St) : Prop := ∃ pl u, pl < 15 ∧ u ≤ 15 ∧ cF χ 5 1 = nI pl ∧ cF χ 5 2 = nI u ∧ cF σ 300 21 = nI u ∧ ∀ j, j < u → ∃ B : Bd_, B.1 = n ∧ WB B ∧ BC_ (48 + 8 * ((pl + 14 - j) % 15)) B χ ∧ BR 322 (34 * (u - 1 - j)) B σ
def RKi (n ch i : Nat) (χ σ : St) : Prop := ∃ s kc, s ≤ n ∧ kc ≤ ch ∧ cF χ (168 + 8 * i) 5 = nI s ∧ cA σ 339 i = nI kc ∧ (s = n ↔ kc = ch) ∧ (s = n → ∃ B : Bd_, B.1 = n ∧ WB B ∧ BC_ (168 + 8 * i) B χ ∧ BR 340 (34 * i) B σ)
def RK (n : Nat) (χ σ : St) : Prop := ∃ ch, ch ≤ n ∧ cF σ 300 4 = nI ch ∧ ∀ i, i < 3 → (cA χ 8 i = 0 ∧ cA σ 338 i = 0) ∨ (cA χ 8 i = 1 ∧ cA σ 338 i = 1 ∧ RKi n ch i χ σ)
def RS (χ σ : St) : Prop := ∃ s, s ≤ 10 ∧ cF χ 9 3 = nI s ∧ cF σ 300 27 = nI s ∧ ∀ i, i < s → ∃ t w c, t < 4 ∧ w < 10 ∧ c ≤ 8 ∧ cA χ 10 i = nI t ∧ cA χ 11 i = nI w ∧ cA χ 12 i = nI c ∧ cA σ 328 i = nI (10 * t + w) ∧ cA σ 329 i = nI c
def RH (χ σ : St) : Prop := ∃ s, s ≤ 12 ∧ cF χ 13 2 = nI s ∧ cF σ 300 31 = nI s ∧ ∀ i, i < s → ∃ t v, t < 5 ∧ v ≤ ([2, 9, 3, 1, 9] : List Nat).getD t 0 ∧ cA χ 14 i = nI t ∧ cA χ 15 i = nI v ∧ cA σ 332 i = nI t ∧ cA σ 333 i = nI v
/-- a law's signs: a number below 1000; a thing 1000 and on; an act 2000 and on; less 3000 -/
def en_ (c : Nat) : Nat := if c < 1000 then c else if c < 2000 then 1000 + [102, 118, 107, 119, 99, 112, 110].getD (c - 1000) 0 else if c < 3000 then 1000 + [60, 62, 61, 43, 45, 42, 47].getD (c - 2000) 0 else 1256
def dp (c : Nat → Nat) : Nat → Nat
  | 0 => 0
  | k + 1 => if c k = 3000 then dp c k else if c k < 2000 then dp c k + 1 else dp c k - 1
def okc (c d : Nat) : Prop := c < 1000 ∨ (1000 ≤ c ∧ c < 1007) ∨ (2000 ≤ c ∧ c < 2007 ∧ 2 ≤ d) ∨ (c = 3000 ∧ 1 ≤ d)
abbrev Lw : Type := Nat × (Nat → Nat)
def WC (C : Lw) : Prop := C.1 ≤ 40 ∧ dp C.2 C.1 = 1 ∧ ∀ k, k < C.1 → okc (C.2 k) (dp C.2 k)
def d0_ : Lw := (7, fun k => [1001, 9, 2005, 1000, 2004, 1003, 2003].getD k 0)
def LC_ (w : Nat) (C : Lw) (χ : St) : Prop := cF χ w 1 = nI C.1 ∧ ∀ i, i < C.1 → cA χ (w + 1) i = nI (en_ (C.2 i))
def LR_ (C : Lw) (σ : St) : Prop := (cF σ 300 17 = 0 ∧ C = d0_) ∨ (cF σ 300 17 = nI C.1 ∧ ∀ i, i < C.1 → cA σ 315 i = nI (C.2 i))
def RL_ (C : Lw) (χ σ : St) : Prop := (cW χ = (16, 21) ∨ cW χ = (21, 16)) ∧ WC C ∧ LC_ (cW χ).1 C χ ∧ LR_ C σ
def Rl_ (B : Bd_) (T : Nat × (Nat → Nat)) (m : Nat) (C : Lw) (χ σ : St) : Prop := WB B ∧ BC_ 32 B χ ∧ BR 306 0 B σ ∧ RT T χ σ ∧ RO m χ σ ∧ RU B.1 χ σ ∧ RK B.1 χ σ ∧ RS χ σ ∧ RH χ σ ∧ RL_ C χ σ
def Rel_ (χ σ : St) : Prop := ∃ B T m C, Rl_ B T m C χ σ
/-- nothing changed but scratch and the row; .. but scratch -/
def SO (χ χ' : St) : Prop := cW χ' = cW χ ∧ (∀ p, p ≠ 3 → (p < 16 ∨ p = (cW χ).1 ∨ (32 ≤ p ∧ p < 40) ∨ (48 ≤ p ∧ p < 300)) → cF χ' p = cF χ p) ∧ ∀ p, (p < 16 ∨ p = (cW χ).1 + 1 ∨ (32 ≤ p ∧ p < 40) ∨ (48 ≤ p ∧ p < 300)) → cA χ' p = cA χ p
def SC_ (χ χ' : St) : Prop := SO χ χ' ∧ cF χ' 3 = cF χ 3 ∧ cL χ' 4 = cL χ 4
def SP (σ σ' : St) : Prop := (∀ j, j = 3 ∨ j = 4 ∨ j = 9 ∨ j = 17 ∨ j = 21 ∨ j = 27 ∨ j = 31 → cF σ' 300 j = cF σ 300 j) ∧ ∀ p, p = 305 ∨ p = 306 ∨ p = 308 ∨ p = 315 ∨ p = 322 ∨ p = 328 ∨ p = 329 ∨ p = 332 ∨ p = 333 ∨ p = 338 ∨ p = 339 ∨ p = 340 → cA σ' p = cA σ p
def SR (σ σ' : St) : Prop := SP σ σ' ∧ cF σ' 300 1 = cF σ 300 1 ∧ cL σ' 302 = cL σ 302
theorem SO.rf (χ : St) : SO χ χ := ⟨rfl, fun _ _ _ => rfl, fun _ _ => rfl⟩
theorem SC_.rf (χ : St) : SC_ χ χ := ⟨SO.rf χ, rfl, rfl⟩
theorem SP.rf (σ : St) : SP σ σ := ⟨fun _ _ => rfl, fun _ _ => rfl⟩
theorem SR.rf (σ : St) : SR σ σ := ⟨SP.rf σ, rfl, rfl⟩
theorem SO.tr {a b c : St} (h : SO a b) (k : SO b c) : SO a c := ⟨k.1.trans h.1, fun p h3 hp => (k.2.1 p h3 (by rw [h.1]; exact hp)).trans (h.2.1 p h3 hp), fun p hp => (k.2.2 p (by rw [h.1]; exact hp)).trans (h.2.2 p hp)⟩
theorem SC_.tr {a b c : St} (h : SC_ a b) (k : SC_ b c) : SC_ a c := ⟨h.1.tr k.1, k.2.1.trans h.2.1, k.2.2.trans h.2.2⟩
theorem SP.tr {a b c : St} (h : SP a b) (k : SP b c) : SP a c := ⟨fun j hj => (k.1 j hj).trans (h.1 j hj), fun p hp => (k.2 p hp).trans (h.2 p hp)⟩
theorem SR.tr {a b c : St} (h : SR a b) (k : SR b c) : SR a c := ⟨h.1.tr k.1, k.2.1.trans h.2.1, k.2.2.trans h.2.2⟩
theorem BC_.cg {b : Nat} {B : Bd_} {χ χ' : St} (h : BC_ b B χ) (hF : cF χ' b = cF χ b) (hA : ∀ j, 1 ≤ j → j ≤ 5 → cA χ' (b + j) = cA χ (b + j)) : BC_ b B χ' := by
  unfold BC_ at h ⊢
  rw [hF, hA 1 (by omega) (by omega), hA 2 (by omega) (by omega), hA 3 (by omega) (by omega), hA 4 (by omega) (by omega), hA 5 (by omega) (by omega)]
  exact h
theorem BR.ci {r o : Nat} {B : Bd_} {σ σ' : St} (h : BR r o B σ) (h8 : B.1 ≤ 8) (hF : cF σ' 300 3 = cF σ 300 3) (hK : cA σ' 305 = cA σ 305) (hA : ∀ i, i < 34 → cA σ' r (o + i) = cA σ r (o + i)) : BR r o B σ' := by
  obtain ⟨h1, h2, h3, h4, h5⟩ := h
  refine ⟨hF.trans h1, (hA 32 (by omega)).trans h2, (hA 33 (by omega)).trans h3, fun k hk => ?_, fun k hk hk2 => ?_⟩
  · obtain ⟨a, b, c, d, e⟩ := h4 k hk
    exact ⟨by rw [hK]; exact a, (hA k (by omega)).trans b, (hA (8 + k) (by omega)).trans c, (hA (16 + k) (by omega)).trans d, (hA (24 + k) (by omega)).trans e⟩
  · obtain ⟨a, b⟩ := h5 k hk hk2
    exact ⟨(hA (16 + k) (by omega)).trans a, (hA (24 + k) (by omega)).trans b⟩
theorem BR.cg {r o : Nat} {B : Bd_} {σ σ' : St} (h : BR r o B σ) (hF : cF σ' 300 3 = cF σ 300 3) (hK : cA σ' 305 = cA σ 305) (hA : cA σ' r = cA σ r) : BR r o B σ' := by
  unfold BR at h ⊢
  rw [hF, hK, hA]
  exact h
theorem RT.cg {T : Nat × (Nat → Nat)} {χ χ' σ σ' : St} (h : RT T χ σ) (h1 : cF χ' 1 = cF χ 1) (h2 : cA χ' 2 = cA χ 2) (h3 : cF σ' 300 9 = cF σ 300 9) (h4 : cA σ' 308 = cA σ 308) : RT T χ' σ' := by
  unfold RT at h ⊢
  rw [h1, h2, h3, h4]
  exact h
theorem RO.cg {m : Nat} {χ χ' σ σ' : St} (h : RO m χ σ) (h1 : cF χ' 3 = cF χ 3) (h2 : cL χ' 4 = cL χ 4) (h3 : cF σ' 300 1 = cF σ 300 1) (h4 : cL σ' 302 = cL σ 302) : RO m χ' σ' := by
  unfold RO at h ⊢
  rw [h1, h2, h3, h4]
  exact h
theorem RU.cg {n : Nat} {χ χ' σ σ' : St} (h : RU n χ σ) (h1 : cF χ' 5 = cF χ 5) (hF : ∀ p, 48 ≤ p → p < 300 → cF χ' p = cF χ p) (hA : ∀ p, 48 ≤ p → p < 300 → cA χ' p = cA χ p) (h2 : cF σ' 300 21 = cF σ 300 21) (h3 : cF σ' 300 3 = cF σ 300 3) (h4 : cA σ' 305 = cA σ 305) (h5 : cA σ' 322 = cA σ 322) : RU n χ' σ' := by
  obtain ⟨pl, u, a, b, c, d, e, f⟩ := h
  refine ⟨pl, u, a, b, by rw [h1]; exact c, by rw [h1]; exact d, by rw [h2]; exact e, fun j hj => ?_⟩
  obtain ⟨B, g1, g2, g3, g4⟩ := f j hj
  have hm : (pl + 14 - j) % 15 < 15 := Nat.mod_lt _ (by omega)
  exact ⟨B, g1, g2, g3.cg (hF _ (by omega) (by omega)) (fun i hi hi2 => hA _ (by omega) (by omega)), g4.cg h3 h4 h5⟩
theorem RK.cg {n : Nat} {χ χ' σ σ' : St} (h : RK n χ σ) (h1 : cA χ' 8 = cA χ 8) (hF : ∀ p, 168 ≤ p → p < 300 → cF χ' p = cF χ p) (hA : ∀ p, 168 ≤ p → p < 300 → cA χ' p = cA χ p) (h2 : cF σ' 300 4 = cF σ 300 4) (h3 : cF σ' 300 3 = cF σ 300 3) (h4 : cA σ' 305 = cA σ 305) (h5 : cA σ' 338 = cA σ 338) (h6 : cA σ' 339 = cA σ 339) (h7 : cA σ' 340 = cA σ 340) : RK n χ' σ' := by
  obtain ⟨ch, a, b, c⟩ := h
  refine ⟨ch, a, by rw [h2]; exact b, fun i hi => ?_⟩
  rw [h1, h5]
  rcases c i hi with c | ⟨c1, c2, s, kc, d1, d2, d3, d4, d5, d6⟩
  · exact Or.inl c
  · refine Or.inr ⟨c1, c2, s, kc, d1, d2, by rw [hF _ (by omega) (by omega)]; exact d3, by rw [h6]; exact d4, d5, fun e => ?_⟩
    obtain ⟨B, g1, g2, g3, g4⟩ := d6 e
    exact ⟨B, g1, g2, g3.cg (hF _ (by omega) (by omega)) (fun i hi hi2 => hA _ (by omega) (by omega)), g4.cg h3 h4 h7⟩
theorem RS.cg {χ χ' σ σ' : St} (h : RS χ σ) (h1 : cF χ' 9 = cF χ 9) (h2 : cA χ' 10 = cA χ 10) (h3 : cA χ' 11 = cA χ 11) (h4 : cA χ' 12 = cA χ 12) (h5 : cF σ' 300 27 = cF σ 300 27) (h6 : cA σ' 328 = cA σ 328) (h7 : cA σ' 329 = cA σ 329) : RS χ' σ' := by
  unfold RS at h ⊢
  rw [h1, h2, h3, h4, h5, h6, h7]
  exact h
theorem RH.cg {χ χ' σ σ' : St} (h : RH χ σ) (h1 : cF χ' 13 = cF χ 13) (h2 : cA χ' 14 = cA χ 14) (h3 : cA χ' 15 = cA χ 15) (h5 : cF σ' 300 31 = cF σ 300 31) (h6 : cA σ' 332 = cA σ 332) (h7 : cA σ' 333 = cA σ 333) : RH χ' σ' := by
  unfold RH at h ⊢
  rw [h1, h2, h3, h5, h6, h7]
  exact h
theorem LC_.cg {w : Nat} {C : Lw} {χ χ' : St} (h : LC_ w C χ) (h1 : cF χ' w = cF χ w) (h2 : cA χ' (w + 1) = cA χ (w + 1)) : LC_ w C χ' := by
  unfold LC_ at h ⊢
  rw [h1, h2]
  exact h
theorem LR_.cg {C : Lw} {σ σ' : St} (h : LR_ C σ) (h1 : cF σ' 300 17 = cF σ 300 17) (h2 : cA σ' 315 = cA σ 315) : LR_ C σ' := by
  unfold LR_ at h ⊢
  rw [h1, h2]
  exact h
theorem RL_.cg {C : Lw} {χ χ' σ σ' : St} (h : RL_ C χ σ) (h0 : cW χ' = cW χ) (h1 : cF χ' (cW χ).1 = cF χ (cW χ).1) (h2 : cA χ' ((cW χ).1 + 1) = cA χ ((cW χ).1 + 1)) (h3 : cF σ' 300 17 = cF σ 300 17) (h4 : cA σ' 315 = cA σ 315) : RL_ C χ' σ' := by
  obtain ⟨a, b, c, d⟩ := h
  refine ⟨by rw [h0]; exact a, b, ?_, d.cg h3 h4⟩
  rw [h0]
  exact c.cg h1 h2
/-- scratch and the row may change -/
theorem Rl_.so {B : Bd_} {T : Nat × (Nat → Nat)} {m m' : Nat} {C : Lw} {χ χ' σ σ' : St} (h : Rl_ B T m C χ σ) (hc : SO χ χ') (hr : SP σ σ') (ho : RO m' χ' σ') : Rl_ B T m' C χ' σ' := by
  obtain ⟨a, b, c, d, e, f, g, i, j, k⟩ := h
  obtain ⟨w, hF, hA⟩ := hc
  obtain ⟨hG, hB⟩ := hr
  have hw : (cW χ).1 ≠ 3 := by rcases k.1 with q | q <;> rw [q] <;> decide
  refine ⟨a, b.cg (hF 32 (by omega) (by omega)) (fun j h1 h2 => hA _ (by omega)), c.cg (hG 3 (by omega)) (hB 305 (by omega)) (hB 306 (by omega)), d.cg (hF 1 (by omega) (by omega)) (hA 2 (by omega)) (hG 9 (by omega)) (hB 308 (by omega)), ho, f.cg (hF 5 (by omega) (by omega)) (fun p h1 h2 => hF p (by omega) (by omega)) (fun p h1 h2 => hA p (by omega)) (hG 21 (by omega)) (hG 3 (by omega)) (hB 305 (by omega)) (hB 322 (by omega)), ?_, ?_, ?_, ?_⟩
  · exact g.cg (hA 8 (by omega)) (fun p h1 h2 => hF p (by omega) (by omega)) (fun p h1 h2 => hA p (by omega)) (hG 4 (by omega)) (hG 3 (by omega)) (hB 305 (by omega)) (hB 338 (by omega)) (hB 339 (by omega)) (hB 340 (by omega))
  · exact i.cg (hF 9 (by omega) (by omega)) (hA 10 (by omega)) (hA 11 (by omega)) (hA 12 (by omega)) (hG 27 (by omega)) (hB 328 (by omega)) (hB 329 (by omega))
  · exact j.cg (hF 13 (by omega) (by omega)) (hA 14 (by omega)) (hA 15 (by omega)) (hG 31 (by omega)) (hB 332 (by omega)) (hB 333 (by omega))
  · exact k.cg w (hF _ hw (Or.inr (Or.inl rfl))) (hA _ (Or.inr (Or.inl rfl))) (hG 17 (by omega)) (hB 315 (by omega))
theorem Rl_.sc {B : Bd_} {T : Nat × (Nat → Nat)} {m : Nat} {C : Lw} {χ χ' σ σ' : St} (h : Rl_ B T m C χ σ) (hc : SC_ χ χ') (hr : SR σ σ') : Rl_ B T m C χ' σ' :=
  h.so hc.1 hr.1 (h.2.2.2.2.1.cg hc.2.1 hc.2.2 hr.2.1 hr.2.2)
theorem sr_th {σ : St} {x : Int32} : SR σ (sF σ 300 0 x) := by
  refine ⟨⟨fun j hj => rFj (by omega), fun p _ => rfl⟩, rFj (by omega), rfl⟩
theorem sr_fl {σ : St} {j : Nat} {x : Int32} (h : j ≠ 1 ∧ j ≠ 3 ∧ j ≠ 4 ∧ j ≠ 9 ∧ j ≠ 17 ∧ j ≠ 21 ∧ j ≠ 27 ∧ j ≠ 31) : SR σ (sF σ 300 j x) := by
  refine ⟨⟨fun i hi => rFj (by omega), fun p _ => rfl⟩, rFj (by omega), rfl⟩
theorem sr_ar {σ : St} {p i : Nat} {x : Int32} (h : p = 307 ∨ p = 313 ∨ p = 316 ∨ p = 319 ∨ p = 320 ∨ p = 323 ∨ p = 324 ∨ p = 325 ∨ p = 330 ∨ p = 335 ∨ p = 336) : SR σ (sA σ p i x) := by
  refine ⟨⟨fun i hi => rfl, fun q hq => rAp (by omega)⟩, rfl, rfl⟩
theorem sr_lo {σ : St} {p i : Nat} {x : Int64} (h : p ≠ 302) : SR σ (sL σ p i x) := ⟨⟨fun i hi => rfl, fun q hq => rfl⟩, rfl, rLp (Ne.symm h)⟩
/-- the row -/
theorem x9_add {χ : St} {m : Nat} {a : Int64} (h1 : cF χ 3 1 = nI m) (hm : m < 12) : f_X9_add χ a = some (sF (sL χ 4 m a) 3 1 (nI (m + 1))) := by
  unfold f_X9_add
  simp (disch := omega) only [rFL, h1, li_12, li_1, c_leF, gd_n, nI_clamp, nI_add]
theorem x12_ent {σ : St} {m : Nat} {a : Int64} (h1 : cF σ 300 1 = nI m) (hm : m < 24) : f_X12_enters σ a = some (sF (sL σ 302 m a) 300 1 (nI (m + 1))) := by
  unfold f_X12_enters
  simp (disch := omega) only [rFL, h1, li_1, gd_n, nI_clamp, nI_add]
theorem so_told {χ : St} {j i : Nat} {x : Int32} {y : Int64} : SO χ (sF (sL χ 4 i y) 3 j x) := ⟨rfl, fun p h _ => rFp h, fun _ _ => rfl⟩
theorem so_tol0 {χ : St} {j : Nat} {x : Int32} : SO χ (sF χ 3 j x) := ⟨rfl, fun p h _ => rFp h, fun _ _ => rfl⟩
theorem sp_told {σ : St} {i : Nat} {x : Int32} {y : Int64} : SP σ (sF (sL σ 302 i y) 300 1 x) := ⟨fun j hj => rFj (by omega), fun _ _ => rfl⟩
theorem sp_tol0 {σ : St} {x : Int32} : SP σ (sF σ 300 1 x) := ⟨fun j hj => rFj (by omega), fun _ _ => rfl⟩
theorem rl_st {B : Bd_} {T : Nat × (Nat → Nat)} {m : Nat} {C : Lw} {χ σ : St} (h : Rl_ B T m C χ σ) : Rl_ B T 0 C (sF χ 3 1 0) (sF σ 300 1 0) :=
  h.so so_tol0 sp_tol0 ⟨by omega, rFs, rFs, fun i hi => by omega⟩
theorem rl_ad {B : Bd_} {T : Nat × (Nat → Nat)} {m : Nat} {C : Lw} {χ σ : St} (h : Rl_ B T m C χ σ) (hm : m < 12) (x : Int64) : ∃ χ' σ', f_X9_add χ x = some χ' ∧ f_X12_enters σ x = some σ' ∧ Rl_ B T (m + 1) C χ' σ' := by
  obtain ⟨h1, h2, h3, h4⟩ := h.2.2.2.2.1
  refine ⟨_, _, x9_add h2 hm, x12_ent h3 (by omega), h.so so_told sp_told ⟨by omega, rFs, rFs, fun i hi => ?_⟩⟩
  rw [rLF, rLF]
  by_cases e : i = m
  · subst e; rw [rLs, rLs]
  · rw [rLj e, rLj e]; exact h4 i (by omega)
theorem x9_st {χ : St} : f_X9_start χ = some (sF χ 3 1 0) := rfl
