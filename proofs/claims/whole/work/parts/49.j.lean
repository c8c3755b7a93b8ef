/-! LAYER 2: repeats, years. -/
/-- the spare bed and the row 'then' hold one bed -/
def SB (B B' : Bd_) (χ σ : St) : Prop := B'.1 = B.1 ∧ WB B' ∧ BC_ 40 B' χ ∧ BR 307 0 B' σ
theorem rl_sb {B : Bd_} {T : Nat × (Nat → Nat)} {m : Nat} {C : Lw} {χ σ : St} (h : Rl_ B T m C χ σ) : ∃ χ' σ', f_X0_copyFrom χ 40 32 = some χ' ∧ f_X12_copies σ = some σ' ∧ Rl_ B T m C χ' σ' ∧ SB B B χ' σ' ∧ cF σ' = cF σ := by
  obtain ⟨s1, e1, hf, hb⟩ := x0_cb (b := 40) (b1 := 32) (w := (cW χ).1 + 4) (by omega) h.W h.b
  have h1 := h.sc (sc_FC h.L rfl hf) (SR.rf _)
  obtain ⟨s2, e2, h2, hr, hF⟩ := rl_cp h1
  exact ⟨s1, s2, e1, e2, h2, ⟨rfl, h.W, hb, hr⟩, hF⟩
section SPARE
variable {B B' : Bd_} {T : Nat × (Nat → Nat)} {m : Nat} {C : Lw} {χ σ : St}
theorem rl_sa {t w : Nat} (h : Rl_ B T m C χ σ) (hs : SB B B' χ σ) (ht : t < 4) : ∃ χ' σ', f_X0_ask χ 40 (cW χ).1 (nI t) (nI w) = some (nI (bi (clP B' C t w) B.1), χ') ∧ f_X12_asksAll σ 307 (nI t) (nI w) = some (nI (bi (clP B' C t w) B.1), σ') ∧ Rl_ B T m C χ' σ' ∧ SB B (asB B' (clP B' C t w)) χ' σ' ∧ cF σ' = cF σ := by
  obtain ⟨hn, hW, hb, hr⟩ := hs
  have hw := h.L.w
  obtain ⟨s1, e1, hb1, hf1⟩ := x0_as (w := (cW χ).1) (b := 40) (wd := w) (by omega) (by omega) (by omega) hW hb h.L.2.1 h.L.2.2.1 ht
  obtain ⟨s2, e2, hr2, hf2⟩ := x12_as (r := 307) (wd := w) ⟨by omega, by omega, by omega⟩ hW hr h.L.2.1 h.L.2.2.2 ht
  rw [hn] at e1 e2
  exact ⟨s1, s2, e1, e2, h.sc (sc_FC h.L rfl hf1) (sr_FR hf2), ⟨hn, asB_w hW, hb1, hr2⟩, hf2.1⟩
theorem rl_sg {t : Nat} (h : Rl_ B T m C χ σ) (hs : SB B B' χ σ) (ht : t < 2 ^ 30) : ∃ χ' σ' v, f_X0_goBy χ 40 (nI t) = some (v, χ') ∧ f_X12_goesOn σ 307 (nI t) = some σ' ∧ Rl_ B T m C χ' σ' ∧ SB B (goB B' t) χ' σ' ∧ cF σ' = cF σ := by
  obtain ⟨hn, hW, hb, hr⟩ := hs
  have hw := h.L.w
  obtain ⟨s1, e1, hb1, hf1⟩ := x0_go (w := (cW χ).1 + 4) (b := 40) hW hb ht
  obtain ⟨s2, e2, hr2, hf2⟩ := x12_go (r := 307) (by omega) hW hr ht
  exact ⟨s1, s2, _, e1, e2, h.sc (sc_FC h.L rfl hf1) (sr_FR hf2), ⟨hn, goB_w hW, hb1, hr2⟩, hf2.1⟩
theorem sb_ad {x : Int64} {χ' σ' : St} (hs : SB B B' χ σ) (e1 : f_X9_add χ x = some χ') (e2 : f_X12_enters σ x = some σ') : SB B B' χ' σ' := by
  obtain ⟨hn, hW, hb, hr⟩ := hs
  have g1 := x9_en e1
  have g2 := x12_en e2
  exact ⟨hn, hW, hb.cg (g1.2.2 40 (by omega)) (fun j _ _ => by rw [g1.1]), hr.cg (g2.2 3 (by omega)) (by rw [g2.1]) (by rw [g2.1])⟩
theorem sb_st (hs : SB B B' χ σ) : SB B B' (sF χ 3 1 0) (sF σ 300 1 0) := by
  obtain ⟨hn, hW, hb, hr⟩ := hs
  exact ⟨hn, hW, hb.cg (rFp (by omega)) (fun j _ _ => rfl), hr.cg (rFj (by omega)) rfl rfl⟩
end SPARE
theorem y_18 (χ σ : St) (a1 a2 a3 : Int32) (h : Rel_ χ σ) : ∃ (v : Int32) (χ1 : St) (σ1 : St), f_X11_repeats χ a1 a2 a3 = some (v, χ1) ∧ f_X12_repeats σ a1 a2 a3 = some (v, σ1) ∧ Rel_ χ1 σ1 := by
  obtain ⟨B, T, m, C, h⟩ := h
  have h0 := h.th
  have h8 := h.W.1
  unfold f_X11_repeats f_X12_repeats
  generalize sF σ 300 0 (0 : Int32) = σ0 at h0 ⊢
  rcases qu_ca a1 a2 with ⟨q1, q2⟩ | ⟨t, w, ht, hw, rfl, rfl, q1, q2⟩
  · simp only [q1, q2, ob_s, c0_0]
    exact ⟨_, _, _, rfl, rfl, h0.rel⟩
  simp only [q1, q2, ob_s, c1_0]
  rcases in_ca a3 1 20 (by omega) (by omega) with ⟨q3, q4⟩ | ⟨n, hn1, hn, rfl, q3⟩
  · refine ⟨-1, χ, σ0, ?_, ?_, h0.rel⟩
    · by_cases hz : a3 < (1 : Int32)
      · rw [if_pos hz]
      · rw [if_neg hz, if_neg (show ¬ a3 ≤ (20 : Int32) from lt_le (q4.resolve_left hz))]
    · rw [bi_nd (show f_X12_in a3.toInt64 (1 : Int64) (20 : Int64) = some 0 from q3)]; rfl
  rw [if_neg (show ¬ nI n < (1 : Int32) from nI_nlt (b := 1) hn1 (by omega)), if_pos (show nI n ≤ (20 : Int32) from nI_le (b := 20) hn (by omega)), bi_nd (show f_X12_in (nI n).toInt64 (1 : Int64) (20 : Int64) = some 1 from q3), c1_0]
  obtain ⟨χ1, σ1, e1, e2, h1, hs1, -⟩ := rl_sb h0
  rw [bi_nd e1, bi_nd e2, x9_s0, ob_s]
  obtain ⟨x, y, e3, e4, sm, χ', σ', rfl, rfl, h2⟩ := it_twn (st1 := fun z : Int32 × Int32 × St => f_X11_repeats_s45 z.2.2 (nI t) (nI w) (nI n) z.1 z.2.1) (st2 := fun z : Int32 × Int32 × St => f_X12_repeats_s42 z.2.2 (nI t) (nI w) (nI n) z.1 z.2.1) (s := ((0 : Int32), (0 : Int32), sF χ1 3 1 0)) (t := ((0 : Int32), (0 : Int32), sF σ1 300 1 0))
    (fun k s u => ∃ sm χ' σ' B', s = (sm, nI k, χ') ∧ u = (sm, nI k, σ') ∧ Rl_ B T (min k 12) C χ' σ' ∧ SB B B' χ' σ')
    (fun x y => ∃ sm χ' σ', x = (sm, χ') ∧ y = (sm, σ') ∧ Rl_ B T (min n 12) C χ' σ') n (by omega) ⟨_, _, _, B, rfl, rfl, rl_st h1, sb_st hs1⟩
    (fun k s u hk hI => by
      obtain ⟨sm, χ', σ', B', rfl, rfl, h2, hs2⟩ := hI
      obtain ⟨χ3, σ3, e3, e4, h3, hs3, -⟩ := rl_sa (w := w) h2 hs2 ht
      obtain ⟨χ4, σ4, v4, e5, e6, h4, hs4, -⟩ := rl_sg h3 hs3 (t := 1) (by omega)
      show ∃ s' t', f_X11_repeats_s45 χ' (nI t) (nI w) (nI n) sm (nI k) = some (.inl s') ∧ f_X12_repeats_s42 σ' (nI t) (nI w) (nI n) sm (nI k) = some (.inl t') ∧ _
      unfold f_X11_repeats_s45 f_X11_repeats_j102_45 f_X12_repeats_s42 f_X12_repeats_j93_42
      simp (disch := omega) only [c_leF, gd_t h2.L.i1, e3, e4, ob_s, h2.b16, li_1, li_12, e5, e6, nI_add]
      by_cases hk12 : 12 ≤ k
      · simp (disch := omega) only [c_leT]
        refine ⟨_, _, rfl, rfl, _, χ4, σ4, _, rfl, rfl, ?_, hs4⟩
        rw [show min (k + 1) 12 = min k 12 by omega]
        exact h4
      · obtain ⟨χ5, σ5, e7, e8, h5⟩ := rl_ad h4 (by omega) (nI (cn (clP B' C t w) B.1)).toInt64
        simp (disch := omega) only [c_leF, e7, e8, ob_s]
        refine ⟨_, _, rfl, rfl, _, χ5, σ5, _, rfl, rfl, ?_, sb_ad hs4 e7 e8⟩
        rw [show min (k + 1) 12 = min k 12 + 1 by omega]
        exact h5)
    (fun s u hI => by
      obtain ⟨sm, χ', σ', B', rfl, rfl, h2, hs2⟩ := hI
      refine ⟨(sm, χ'), (sm, σ'), ?_, ?_, sm, χ', σ', rfl, rfl, h2⟩
      · show f_X11_repeats_s45 χ' (nI t) (nI w) (nI n) sm (nI n) = _
        unfold f_X11_repeats_s45
        simp (disch := omega) only [c_leT]
      · show f_X12_repeats_s42 σ' (nI t) (nI w) (nI n) sm (nI n) = _
        unfold f_X12_repeats_s42
        simp (disch := omega) only [c_leT])
  rw [bi_nd e3, bi_nd e4]
  exact ⟨_, _, _, rfl, rfl, h2.rel⟩
/-- draws -/
def st_r (r : Int32) : Int32 := r * (1103515245 : Int32) + (12345 : Int32)
def jj_ (r : Int32) : Nat := r.toBitVec.toNat / 65536
theorem jj_lt (r : Int32) : jj_ r < 65536 := by
  have := r.toBitVec.isLt
  unfold jj_
  omega
theorem nI_of32 (r : Int32) : r = nI r.toBitVec.toNat := Int32.toBitVec_inj.1 (by
  show r.toBitVec = BitVec.ofNat 32 r.toBitVec.toNat
  rw [BitVec.ofNat_toNat, BitVec.setWidth_eq])
theorem us_16 (r : Int32) : (r.toUInt32 >>> ((16 : Int32).toUInt32 &&& Int32.toUInt32 31)).toInt32 = nI (jj_ r) := by
  have h := pk_ushrN (n := r.toBitVec.toNat) r.toBitVec.isLt (16 : Int32) 16 (by decide +kernel)
  rw [← nI_of32] at h
  rw [h]
  rfl
theorem x3_dr {r : Int32} {n : Nat} (h0 : 0 < n) (hn : n < 2 ^ 31) : f_X3_drawn r (nI n) = some (nI (jj_ r % n)) := by
  have hj := jj_lt r
  unfold f_X3_drawn
  rw [if_pos (show (0 : Int32) < nI n from nI_lt (a := 0) h0 hn), us_16, pk_rem (by omega) h0 hn, gd_t]
  unfold nz
  rw [decide_eq_false (show ¬ nI n = 0 from nI_ne0 h0 hn)]
  rfl
theorem x12_dr {σ : St} {n : Nat} (h0 : 0 < n) (hn : n < 2 ^ 31) : f_X12_draws σ (nI n) = some (nI (jj_ (st_r (cF σ 300 37)) % n), sF σ 300 37 (st_r (cF σ 300 37))) := by
  have hj := jj_lt (st_r (cF σ 300 37))
  unfold f_X12_draws
  rw [gd_t (by unfold nz; rw [decide_eq_false (show ¬ nI n = 0 from nI_ne0 h0 hn)]; rfl), rFs, us_16]
  show some (nI (jj_ (st_r (cF σ 300 37))) - nI (jj_ (st_r (cF σ 300 37))) / nI n * nI n, _) = _
  rw [pk_rem (by omega) h0 hn]
  rfl
theorem x0_pv {b o v : Nat} {B : Bd_} {χ : St} (W : WB B) (h : BC_ b B χ) (ho : o < B.1) (hv : v < 16) : f_X0_persuade χ b (nI o) (nI v) = some (if nI (B.2.1 2 o) = nI v then (-2 : Int32) else (20 : Int32) + nI (B.2.1 2 o), sA χ (b + 3) o (nI v)) := by
  have h8 := W.1
  unfold f_X0_persuade
  rw [bi_nd (x0_ha W h ho), show (nI 1 : Int32) = 1 from rfl, c1_0, if_neg (nI_pos (by omega)), if_pos (show nI v < (16 : Int32) from nI_lt (b := 16) hv (by omega)), gd_n (by omega) (by omega), gd_n (by omega) (by omega), nI_clamp (by omega), h.k2 ho]
theorem y_47 (χ σ : St) (a1 a2 : Int32) (h : Rel_ χ σ) : ∃ (v : Int32) (χ1 : St) (σ1 : St), f_X11_years χ a1 a2 = some (v, χ1) ∧ f_X12_years σ a1 a2 = some (v, σ1) ∧ Rel_ χ1 σ1 := by
  obtain ⟨B, T, m, C, h⟩ := h
  have h0 := h.th
  have h8 := h.W.1
  unfold f_X11_years f_X12_years
  generalize sF σ 300 0 (0 : Int32) = σ0 at h0 ⊢
  rcases in_ca a2 1 60 (by omega) (by omega) with ⟨q3, q4⟩ | ⟨n, hn1, hn, rfl, q3⟩
  · refine ⟨-1, χ, σ0, ?_, ?_, h0.rel⟩
    · by_cases hz : a2 < (1 : Int32)
      · rw [if_pos hz]
      · rw [if_neg hz, if_neg (show ¬ a2 ≤ (60 : Int32) from lt_le (q4.resolve_left hz))]
    · rw [bi_nd (show f_X12_in a2.toInt64 (1 : Int64) (60 : Int64) = some 0 from q3)]; rfl
  rw [if_neg (show ¬ nI n < (1 : Int32) from nI_nlt (b := 1) hn1 (by omega)), if_pos (show nI n ≤ (60 : Int32) from nI_le (b := 60) hn (by omega)), bi_nd (show f_X12_in (nI n).toInt64 (1 : Int64) (60 : Int64) = some 1 from q3), c1_0]
  obtain ⟨χ1, σ1, e1, e2, h1, hs1, hF1⟩ := rl_sb (h0.sc (SC_.rf _) (sr_fl (j := 37) (x := a1) (by omega)))
  rw [bi_nd e1, bi_nd e2]
  obtain ⟨x, y, e3, e4, cl, χ', σ', B', rfl, rfl, h2, hs2⟩ := it_twn (st1 := fun z : Int32 × Int32 × Int32 × St => f_X11_years_s32 z.2.2.2 (nI n) z.1 z.2.1 z.2.2.1) (st2 := fun z : Int32 × Int32 × St => f_X12_years_s33 z.2.2 (nI n) z.1 z.2.1) (s := ((0 : Int32), a1, (0 : Int32), χ1)) (t := ((0 : Int32), (0 : Int32), σ1))
    (fun k s u => ∃ cl r χ' σ' B', s = (cl, r, nI k, χ') ∧ u = (cl, nI k, σ') ∧ cF σ' 300 37 = r ∧ Rl_ B T m C χ' σ' ∧ SB B B' χ' σ')
    (fun x y => ∃ cl χ' σ' B', x = (cl, χ') ∧ y = (cl, σ') ∧ Rl_ B T m C χ' σ' ∧ SB B B' χ' σ') n (by omega) ⟨_, _, _, _, B, rfl, rfl, by rw [hF1]; exact rFs, h1, hs1⟩
    (fun k s u hk hI => by
      obtain ⟨cl, r, χ', σ', B', rfl, rfl, hr, h2, hs2⟩ := hI
      have h37 : ∀ (σ' : St) (x : Int32), Rl_ B T m C χ' σ' → SB B B' χ' σ' → Rl_ B T m C χ' (sF σ' 300 37 x) ∧ SB B B' χ' (sF σ' 300 37 x) := fun σ' x h hs =>
        ⟨h.sc (SC_.rf _) (sr_fl (by omega)), hs.1, hs.2.1, hs.2.2.1, hs.2.2.2.cg (rFj (by omega)) rfl rfl⟩
      obtain ⟨g1, p1⟩ := h37 σ' (st_r r) h2 hs2
      obtain ⟨g2, p2⟩ := h37 _ (st_r (st_r r)) g1 p1
      obtain ⟨g3, p3⟩ := h37 _ (st_r (st_r (st_r r))) g2 p2
      have d1 := x12_dr (σ := σ') (n := 4) (by omega) (by omega)
      rw [hr] at d1
      have d2 : ∀ n, 0 < n → n < 2 ^ 31 → f_X12_draws (sF σ' 300 37 (st_r r)) (nI n) = some (nI (jj_ (st_r (st_r r)) % n), sF (sF σ' 300 37 (st_r r)) 300 37 (st_r (st_r r))) := fun n a b => by
        have := x12_dr (σ := sF σ' 300 37 (st_r r)) a b
        rw [rFs] at this
        exact this
      have d3 : ∀ n, 0 < n → n < 2 ^ 31 → f_X12_draws (sF (sF σ' 300 37 (st_r r)) 300 37 (st_r (st_r r))) (nI n) = some (nI (jj_ (st_r (st_r (st_r r))) % n), sF (sF (sF σ' 300 37 (st_r r)) 300 37 (st_r (st_r r))) 300 37 (st_r (st_r (st_r r)))) := fun n a b => by
        have := x12_dr (σ := sF (sF σ' 300 37 (st_r r)) 300 37 (st_r (st_r r))) a b
        rw [rFs] at this
        exact this
      have j1 : jj_ (st_r r) % 4 < 4 := Nat.mod_lt _ (by omega)
      have j2 : jj_ (st_r (st_r r)) % 4 < 4 := Nat.mod_lt _ (by omega)
      have hst : ∀ r, f_X3_stirred r = some (st_r r) := fun _ => rfl
      have hst := hst
      show ∃ s' t', f_X11_years_s32 χ' (nI n) cl r (nI k) = some (.inl s') ∧ f_X12_years_s33 σ' (nI n) cl (nI k) = some (.inl t') ∧ _
      unfold f_X11_years_s32 f_X11_years_j87_32 f_X11_years_j175_32 f_X12_years_s33 f_X12_years_j135_33
      rw [if_neg (show ¬ nI n ≤ nI k from nI_ge hk (by omega)), if_neg (show ¬ nI n ≤ nI k from nI_ge hk (by omega)), hst r, ob_s, bi_nd (show f_X3_drawn (st_r r) (4 : Int32) = _ from x3_dr (n := 4) (by omega) (by omega)), bi_nd (show f_X12_draws σ' (4 : Int32) = _ from d1)]
      generalize jj_ (st_r r) % 4 = q at j1 ⊢
      simp only [ob_s, hst]
      have hn40 := hs2.2.2.1.n
      have hn3 := g1.r.n
      rw [hs2.1] at hn40
      by_cases hq2 : q < 2
      · obtain ⟨χ4, σ4, v4, e5, e6, h4, hs4, hF4⟩ := rl_sg g1 p1 (t := 1) (by omega)
        simp (disch := omega) only [li_1, li_2, c_leF, e5, e6, ob_s, nI_add]
        exact ⟨_, _, rfl, rfl, _, _, _, _, _, rfl, rfl, by rw [hF4]; exact rFs, h4, hs4⟩
      · by_cases hq : q = 2
        · subst hq
          obtain ⟨χ4, σ4, e5, e6, h4, hs4, hF4⟩ := rl_sa (w := jj_ (st_r (st_r (st_r r))) % 10) g3 p3 (t := jj_ (st_r (st_r r)) % 4) j2
          have f1 := x3_dr (r := st_r (st_r r)) (n := 4) (by omega) (by omega)
          have f2 := x3_dr (r := st_r (st_r (st_r r))) (n := 10) (by omega) (by omega)
          simp (disch := omega) only [li_1, li_2, li_4, li_10, c_leF, c_leT, c_eqT, if_true, f1, f2, d2, d3, ob_s, gd_t g1.L.i1, e5, e6, g1.b16, nI_add]
          exact ⟨_, _, rfl, rfl, _, _, _, _, _, rfl, rfl, by rw [hF4]; exact rFs, h4, hs4⟩
        · by_cases hB : B.1 = 0
          · simp (disch := omega) only [hn40, hn3, li_0, li_1, li_2, c_leF, c_leT, c_eqF, hB, nI_add]
            exact ⟨_, _, rfl, rfl, _, _, _, _, _, rfl, rfl, rFs, g1, p1⟩
          · have f1 := x3_dr (r := st_r (st_r r)) (n := B.1) (by omega) (by omega)
            have f2 := x3_dr (r := st_r (st_r (st_r r))) (n := 16) (by omega) (by omega)
            have k1 : jj_ (st_r (st_r r)) % B.1 < B.1 := Nat.mod_lt _ (by omega)
            have k2 : jj_ (st_r (st_r (st_r r))) % 16 < 16 := Nat.mod_lt _ (by omega)
            have e5 := x0_pv hs2.2.1 hs2.2.2.1 (o := jj_ (st_r (st_r r)) % B.1) (v := jj_ (st_r (st_r (st_r r))) % 16) (by rw [hs2.1]; exact k1) k2
            generalize hu1 : jj_ (st_r (st_r r)) % B.1 = u1 at *
            generalize hu2 : jj_ (st_r (st_r (st_r r))) % 16 = u2 at *
            have hd2 := d2 B.1 (by omega) (by omega)
            have hd3 := d3 16 (by omega) (by omega)
            rw [hu1] at hd2
            rw [hu2] at hd3
            have z1 := hs2.2.2.1.se (p := 43) (j := 2) (k := u1) (x := u2) rfl (by omega)
            have z2 := p3.2.2.2.se p3.2.1 (p := 8 + u1) (j := 1) (k := u1) (x := u2) (by omega) (by omega) (by rw [hs2.1]; exact k1) (by omega)
            have z3 : Rl_ B T m C (sA χ' 43 u1 (nI u2)) (sA (sF (sF (sF σ' 300 37 (st_r r)) 300 37 (st_r (st_r r))) 300 37 (st_r (st_r (st_r r)))) 307 (8 + u1) (nI u2)) := g3.sc (sc_FC g3.L rfl ((FC_.rf 40 ((cW χ').1 + 4) χ').sA (by omega))) (sr_ar (by omega))
            have z4 := hs2.2.1.se (j := 2) (k := u1) (x := u2) ⟨by omega, by omega, by omega, by omega, by omega⟩
            simp (disch := omega) only [hn40, hn3, li_0, li_1, li_2, li_8, li_16, c_leF, c_leT, c_eqF, nI_add, f1, f2, hd2, hd3, ob_s, e5, gd_n, nI_clamp]
            exact ⟨_, _, rfl, rfl, _, _, _, _, se_B B' 2 u1 u2, rfl, rfl, by rw [rFA]; exact rFs, z3, ⟨hs2.1, z4, z1, z2⟩⟩)
    (fun s u hI => by
      obtain ⟨cl, r, χ', σ', B', rfl, rfl, hr, h2, hs2⟩ := hI
      refine ⟨(cl, χ'), (cl, σ'), ?_, ?_, cl, χ', σ', B', rfl, rfl, h2, hs2⟩
      · show f_X11_years_s32 χ' (nI n) cl r (nI n) = _
        unfold f_X11_years_s32
        simp (disch := omega) only [c_leT]
      · show f_X12_years_s33 σ' (nI n) cl (nI n) = _
        unfold f_X12_years_s33
        simp (disch := omega) only [c_leT])
  have hs3 := sb_st hs2
  have o1 := x0_op hs3.2.1 hs3.2.2.1
  have o2 := x12_op hs3.2.1 hs3.2.2.2
  obtain ⟨χ4, σ4, e5, e6, h4⟩ := rl_ad (rl_st h2) (by omega) (nI (bi (oP_ B' 0) B'.1)).toInt64
  have hs4 := sb_ad hs3 e5 e6
  have o3 := x0_pe hs4.2.1 hs4.2.2.1
  have o4 := x12_pe hs4.2.1 hs4.2.2.2
  obtain ⟨χ5, σ5, e7, e8, h5⟩ := rl_ad h4 (by omega) (nI (su (B'.2.1 4) B'.1)).toInt64
  simp only [bi_nd e3, bi_nd e4, x9_s0, ob_s, o1, o2, e5, e6, o3, o4, e7, e8]
  exact ⟨_, _, _, rfl, rfl, h5.rel⟩
