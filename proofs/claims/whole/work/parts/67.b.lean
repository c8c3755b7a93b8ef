/-! LAYER 2: oysters laid in the bed. -/
def ad_B (B : Bd_) (f : Nat → Nat) (j : Nat) : Bd_ := (B.1 + j, fun i l => if l < B.1 then B.2.1 i l else if i = 0 then kt_ (f (5 * (l - B.1))) else if i = 1 then f (5 * (l - B.1) + 1) - 48 else if i = 2 then lv_ f (5 * (l - B.1)) else 0, B.2.2.1, B.2.2.2)
theorem x0_adm {χ : St} {b n : Nat} {a c d : Int32} (h : cF χ b 5 = nI n) (hn : n < 8) : f_X0_admit χ b a c d = some (sF (sA (sA (sA (sA (sA χ (b + 1) n a) (b + 2) n c) (b + 3) n d) (b + 4) n 0) (b + 5) n 0) b 5 (nI (n + 1))) := by
  unfold f_X0_admit
  simp (disch := omega) only [rFA, h, gd_n, nI_clamp, nI_1]
  rw [if_neg (show ¬ (8 : Int32) ≤ nI n from nI_ge (b := 8) hn (by omega))]
theorem x12_lay {σ : St} {n x : Nat} {a c d : Int32} (h : cF σ 300 3 = nI n) (hn : n < 8) (hx : x < 8) (h14 : ¬ cF σ 300 14 ≤ nI x) (ha : cA σ 313 (3 * x) = a) (hc : cA σ 313 (3 * x + 1) = c) (hd : cA σ 313 (3 * x + 2) = d) : f_X12_oysters_s81 σ (nI x) = some (.inl (nI (x + 1), sF (sA (sA (sA σ 305 n a) 306 n c) 306 (8 + n) d) 300 3 (nI (n + 1)))) := by
  unfold f_X12_oysters_s81
  rw [if_neg h14, show (3 : Int32) = nI 3 from rfl, show (2 : Int32) = nI 2 from rfl, show (8 : Int32) = nI 8 from rfl, pk_mul]
  simp (disch := omega) only [rFA, h, gd_n, nI_clamp, nI_1, nI_add, rAp, ha, hc, hd]
theorem ki_c : ∀ c, c < 256 → lt_ c = true → f_X11_kindOf (nI c) = some (nI (kt_ c)) := by decide +kernel
