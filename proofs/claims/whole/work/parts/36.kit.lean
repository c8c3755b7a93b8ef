/-! LAYER 2: the pieces of both sides' calls, side by side. -/
theorem ob_s {α β : Type} (a : α) (f : α → Option β) : (some a).bind f = f a := Eq.trans (Eq.refl _) (Eq.refl _)
theorem x9_s0 (χ : St) : f_X9_start χ = some (sF χ 3 1 0) := Eq.trans (Eq.refl _) (Eq.refl _)
theorem c1_0 {α : Type} {x y : α} : (if (1 : Int32) = 0 then x else y) = y := if_neg (by decide)
theorem c0_0 {α : Type} {x y : α} : (if (0 : Int32) = 0 then x else y) = x := if_pos rfl
section KIT2
variable {B : Bd_} {T : Nat × (Nat → Nat)} {m : Nat} {C : Lw} {χ σ : St}
theorem Rl_.W (h : Rl_ B T m C χ σ) : WB B := h.1
theorem Rl_.b (h : Rl_ B T m C χ σ) : BC_ 32 B χ := h.2.1
theorem Rl_.r (h : Rl_ B T m C χ σ) : BR 306 0 B σ := h.2.2.1
theorem Rl_.tx (h : Rl_ B T m C χ σ) : RT T χ σ := h.2.2.2.1
theorem Rl_.O (h : Rl_ B T m C χ σ) : RO m χ σ := h.2.2.2.2.1
theorem Rl_.U (h : Rl_ B T m C χ σ) : RU B.1 χ σ := h.2.2.2.2.2.1
theorem Rl_.K (h : Rl_ B T m C χ σ) : RK B.1 χ σ := h.2.2.2.2.2.2.1
theorem Rl_.S (h : Rl_ B T m C χ σ) : RS χ σ := h.2.2.2.2.2.2.2.1
theorem Rl_.H (h : Rl_ B T m C χ σ) : RH χ σ := h.2.2.2.2.2.2.2.2.1
theorem Rl_.L (h : Rl_ B T m C χ σ) : RL_ C χ σ := h.2.2.2.2.2.2.2.2.2
theorem Rl_.th (h : Rl_ B T m C χ σ) : Rl_ B T m C χ (sF σ 300 0 0) := h.sc (SC_.rf χ) sr_th
theorem Rl_.rel (h : Rl_ B T m C χ σ) : Rel_ χ σ := ⟨B, T, m, C, h⟩
theorem RL_.w (h : RL_ C χ σ) : ((cW χ).1 = 16 ∧ (cW χ).2 = 21) ∨ ((cW χ).1 = 21 ∧ (cW χ).2 = 16) := by
  rcases h.1 with e | e <;> rw [e]
  · exact Or.inl ⟨rfl, rfl⟩
  · exact Or.inr ⟨rfl, rfl⟩
theorem RL_.i1 (h : RL_ C χ σ) : isLaw (cW χ).1 = true := by rcases h.w with e | e <;> rw [e.1] <;> decide
theorem RL_.i2 (h : RL_ C χ σ) : isLaw (cW χ).2 = true := by rcases h.w with e | e <;> rw [e.2] <;> decide
theorem sc_SV {s : St} (h : RL_ C χ σ) (hs : SV ((cW χ).1 + 4) χ s) : SC_ χ s := by
  have hw := h.w
  exact ⟨⟨hs.2.2.1, fun p _ _ => by rw [hs.1], fun p hp => hs.2.2.2 p (by omega)⟩, by rw [hs.1], by rw [hs.2.1]⟩
theorem sc_SV2 {s : St} (h : RL_ C χ σ) (hs : SV ((cW χ).2 + 4) χ s) : SC_ χ s := by
  have hw := h.w
  exact ⟨⟨hs.2.2.1, fun p _ _ => by rw [hs.1], fun p hp => hs.2.2.2 p (by omega)⟩, by rw [hs.1], by rw [hs.2.1]⟩
theorem sr_SE {s : St} (hs : SE_ σ s) : SR σ s := ⟨⟨fun j _ => by rw [hs.1], fun p hp => hs.2.2.2 p (by omega) (by omega)⟩, by rw [hs.1], by rw [hs.2.1]⟩
/-- the spare bed, the row 'then' are scratch -/
theorem sc_FC {w : Nat} {s : St} (h : RL_ C χ σ) (hw : w = (cW χ).1 + 4) (hs : FC_ 40 w χ s) : SC_ χ s := by
  have hv := h.w
  exact ⟨⟨hs.2.1, fun p _ hp => hs.2.2.1 p (by omega), fun p hp => hs.2.2.2 p (by omega) (by omega)⟩, hs.2.2.1 3 (by omega), by rw [hs.1]⟩
theorem sr_FR {s : St} (hs : FR 307 σ s) : SR σ s := ⟨⟨fun j _ => by rw [hs.1], fun p hp => hs.2.2 p (by omega) (by omega) (by omega)⟩, by rw [hs.1], by rw [hs.2.1]⟩
theorem rl_cl {t w : Nat} (h : Rl_ B T m C χ σ) (ht : t < 4) : ∃ χ' σ', f_X0_closing χ 32 (cW χ).1 (nI t) (nI w) = some (nI (bi (clP B C t w) B.1), χ') ∧ f_X12_closing σ 306 (nI t) (nI w) = some (nI (bi (clP B C t w) B.1), σ') ∧ Rl_ B T m C χ' σ' := by
  have hw := h.L.w
  obtain ⟨χ', e1, h1⟩ := x0_cl (w := (cW χ).1) (b := 32) (wd := w) (by omega) (by omega) h.W h.b h.L.2.1 h.L.2.2.1 ht
  obtain ⟨σ', e2, h2⟩ := x12_cl (r := 306) (wd := w) ⟨by omega, by omega⟩ h.W h.r h.L.2.1 h.L.2.2.2 ht
  exact ⟨χ', σ', e1, e2, h.sc (sc_SV h.L h1) (sr_SE h2)⟩
/-- question q of 40 -/
theorem rl_cq {q : Nat} (h : Rl_ B T m C χ σ) (hq : q < 40) : ∃ χ' σ', f_X11_closingBy χ (nI q) = some (nI (bi (clP B C (q / 10) (q % 10)) B.1), χ') ∧ f_X12_closing σ 306 (nI (q / 10)) (nI (q % 10)) = some (nI (bi (clP B C (q / 10) (q % 10)) B.1), σ') ∧ Rl_ B T m C χ' σ' := by
  obtain ⟨χ', σ', e1, e2, h1⟩ := rl_cl (t := q / 10) (w := q % 10) h (by omega)
  refine ⟨χ', σ', ?_, e2, h1⟩
  unfold f_X11_closingBy
  rw [gd_t h.L.i1]
  simp (disch := omega) only [li_10, pk_div, pk_rn, e1, ob_s]
theorem Rl_.b16 (h : Rl_ B T m C χ σ) (p : Nat → Bool) : f_J6_bitCount_0f7a4 (nI (bi p B.1)) = some (nI (cn p B.1)) := bc_bi p (by have := h.W.1; omega)
theorem Rl_.cn (_h : Rl_ B T m C χ σ) (p : Nat → Bool) : cn p B.1 ≤ B.1 := cn_le p B.1
theorem Rl_.al (h : Rl_ B T m C χ σ) : f_X0_all χ 32 = some (nI (2 ^ B.1 - 1)) ∧ f_X12_all σ = some (nI (2 ^ B.1 - 1)) := ⟨x0_al h.W h.b, x12_al h.W h.r⟩
theorem Rl_.op (h : Rl_ B T m C χ σ) : f_X0_openOnes χ 32 = some (nI (bi (oP_ B 0) B.1)) ∧ f_X12_openOnes σ 306 = some (nI (bi (oP_ B 0) B.1)) := ⟨x0_op h.W h.b, x12_op h.W h.r⟩
theorem Rl_.ye {t : Nat} (h : Rl_ B T m C χ σ) (ht : t < 4) : f_X0_yesOnes χ 32 (nI t) = some (nI (bi (yP_ B t) B.1)) ∧ f_X12_yesOf σ 306 (nI t) = some (nI (bi (yP_ B t) B.1)) := ⟨x0_ye h.W h.b ht, x12_ye h.W h.r ht⟩
theorem Rl_.ki {t : Nat} (h : Rl_ B T m C χ σ) (ht : t < 3) : f_X0_onesOfKind χ 32 (nI t) = some (nI (bi (kP_ B t) B.1)) ∧ f_X12_kinOf σ (nI t) = some (nI (bi (kP_ B t) B.1)) := ⟨x0_ki h.W h.b (by omega), x12_ki h.W h.r (by omega)⟩
theorem Rl_.n (h : Rl_ B T m C χ σ) : cF χ 32 5 = nI B.1 ∧ cF σ 300 3 = nI B.1 ∧ B.1 ≤ 8 := ⟨h.b.n, h.r.n, h.W.1⟩
theorem fl_0 : f_X12_flag (nI 0) = some (nI 0) := rfl
theorem fl_1 : f_X12_flag (nI 1) = some (nI 1) := rfl
theorem fl_c {c : Prop} (d : Decidable c) : f_X12_flag (if c then nI 1 else nI 0) = some (if c then nI 1 else nI 0) := by split <;> rfl
end KIT2
