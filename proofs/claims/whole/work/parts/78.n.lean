/-! LAYER 2: the reference reads a rank; a rule as a whole. -/
theorem ra_b (d : Nat) (s : St) (r : Int32) : f_X12_readsRank (d + 1) s r = f_X12_readsRank_b (f_X12_readsThing d) (f_X12_readsRank d) s r := rfl
/-- a turn of the loop, as the three ranks have it -/
theorem s24_r {d r : Nat} (hr : r < 3) (s : St) : f_X12_readsRank_s24 (f_X12_readsThing d) (f_X12_readsRank d) s (nI r) (nI 1) = f_X12_readsRank_j50_24 (f_X12_readsThing d) (f_X12_readsRank d) s (nI r) (5 + r) := by
  have hc : r = 0 ∨ r = 1 ∨ r = 2 := by omega
  unfold f_X12_readsRank_s24
  rw [if_neg (show ¬ nI 1 = 0 by decide)]
  rcases hc with rfl | rfl | rfl
  · rw [if_pos (show nI 0 = 0 from rfl)]
  · rw [if_neg (show ¬ nI 1 = 0 by decide), if_pos (show nI 1 = 1 from rfl)]
  · rw [if_neg (show ¬ nI 2 = 0 by decide), if_neg (show ¬ nI 2 = 1 by decide)]
theorem br_e {r : Nat} (hr : r < 3) : (if nI r = 0 then (0 : Int32) else (if nI r = (1 : Int32) then (3 : Int32) else (5 : Int32))) = nI (br_ r) := by
  have hc : r = 0 ∨ r = 1 ∨ r = 2 := by omega
  rcases hc with rfl | rfl | rfl <;> decide
def LI_ (f : Nat → Nat) (L p n : Nat) (c o0 st : List Nat) (m : Nat → Bool) (r : Nat) (s : St) (k : Nat) (z : Int32 × St) : Prop :=
  EP_ s z.2 ∧ ∃ p1 K1 o t, p + 1 + k ≤ p1 ∧ OP_ f L p n c o0 st m r p1 K1 o t z.2 ∧ (p1 < L → sn_ (oc_ (f p1)) ≤ r + 1) ∧ ((z.1 = nI 1 ∧ (r = 0 → K1.2.2.2.1 n = false)) ∨ (z.1 = nI 0 ∧ r = 0 ∧ K1.2.2.2.1 n = true))
def LQ_ (f : Nat → Nat) (L p n : Nat) (c o0 st : List Nat) (m : Nat → Bool) (r : Nat) (s : St) (x : (Int32 × St) ⊕ St) : Prop :=
  (∃ s', x = .inl (nI 0, s') ∧ EP_ s s' ∧ FL_ f L p c.length s') ∨ (∃ s', (x = .inl (nI 1, s') ∨ x = .inr s') ∧ EP_ s s' ∧ ∃ p' K' o t, p < p' ∧ OP_ f L p n c o0 st m r p' K' o t s' ∧ ST_ f L r p' n K')
theorem rn_l {f : Nat → Nat} {L d p n : Nat} {c o0 st : List Nat} {m : Nat → Bool} {r : Nat} {s : St} (hL : L ≤ 40) (hR : RN_ f L d) (hr : r < 3) (hc : c.length ≤ p) (hB : BK_ (r + 1) st) (hd : 5 * (L - p) + 5 ≤ d + 1 + r) {k : Nat} {z : Int32 × St} (hI : LI_ f L p n c o0 st m r s k z) : (k < 41 ∧ ∃ z', f_X12_readsRank_s24 (f_X12_readsThing d) (f_X12_readsRank d) z.2 (nI r) z.1 = some (.inl z') ∧ LI_ f L p n c o0 st m r s (k + 1) z') ∨ ∃ x, f_X12_readsRank_s24 (f_X12_readsThing d) (f_X12_readsRank d) z.2 (nI r) z.1 = some (.inr x) ∧ LQ_ f L p n c o0 st m r s x := by
  obtain ⟨z1, w⟩ := z
  obtain ⟨hE, p1, K1, o, t, hk, hOP, hST, ⟨rfl, h0⟩ | ⟨rfl, r0, hm⟩⟩ := hI
  · dsimp only at hE hOP ⊢
    obtain ⟨b1, b2, b3, b4, b5, b6, b7, b8, b9, b10, b11, b12⟩ := id hOP
    rw [s24_r hr]
    unfold f_X12_readsRank_j50_24
    have ht := x12_tr b3.1 hr
    by_cases c1 : p1 < L ∧ sn_ (oc_ (f p1)) = r + 1
    · rw [if_pos c1] at ht
      obtain ⟨a1, a2, a3, a4⟩ := (to_r r hr _ (b3.1.2.2.2.2 p1 c1.1).1).1 c1.2
      have ha7 := (to_s r hr).1
      obtain ⟨g1, g2⟩ := rl_ap (q := r + 1) (s0 := st) t b7 hB.1 hB.2
      have hK2 : KS_ f (p1 + 1) = some ((o0 ++ o) ++ t, oc_ (f p1) :: st, n, (if r = 0 then ub_ K1.2.2.2.1 n true else K1.2.2.2.1), 0, false) := by
        rw [KS_s b2, tk_op b8 c1.2 (fun e => by rw [b9]; exact h0 e), b6, g1, g2, b9, b5]
      have hbk : BK_ (r + 1 + 1) (oc_ (f p1) :: st) := bk_c (by
        unfold lk_
        rw [c1.2, decide_eq_false (show ¬ r + 1 + 1 ≤ r + 1 by omega), Bool.and_false])
      have hc2 : (c ++ (o ++ t)).length ≤ p1 := by rw [List.length_append]; omega
      obtain ⟨v, s2, e2, x2, hv⟩ := hR (p1 + 1) n (c ++ (o ++ t)) _ _ _ _ (r + 1) (by omega) (b3.at (p' := p1 + 1) c1.1) (by omega) hK2 hbk (fun e => absurd e (by omega)) (by omega)
      rw [bi_nd ht]
      dsimp only
      rw [if_pos (show (0 : Int32) ≤ nI (oc_ (f p1) - (2000 + br_ r)) from nI_le (a := 0) (by omega) (by omega)), nI_1, bi_nd e2]
      dsimp only
      have hE2 : EP_ s s2 := (hE.f (by omega)).tr x2
      rcases hv with ⟨rfl, p2, K3, o2, t2, q0, ⟨d1, d2, d3, d4, d5, d6, d7, d8, d9, d10, d11, d12⟩, hS2⟩ | ⟨rfl, p', K', c', f1, f2, f3, f4, f5, f6, f7, f8⟩
      · left
        rw [if_neg (show ¬ nI 1 = 0 by decide), br_e hr]
        unfold f_X12_readsRank_j96_24 f_X12_readsRank_j109_24
        obtain ⟨s3, e3, r3, x3⟩ := x12_ko d3 (by rw [List.length_append]; omega) (oc_ (f p1))
        rw [show (2000 : Int32) = nI 2000 from rfl, nI_add, nI_add, show 2000 + (oc_ (f p1) - (2000 + br_ r)) + br_ r = oc_ (f p1) by omega, bi_nd e3]
        have hr3 : RP_ f L p2 n (c ++ ((o ++ (t ++ o2)) ++ (t2 ++ [oc_ (f p1)]))) s3 := by simpa only [List.append_assoc] using r3
        have hcm : ∀ i, i ≤ n → (r = 0 → i ≠ n) → K3.2.2.2.1 i = m i := fun i hi hri => by
          rw [d10 i hi (fun x => absurd x (by omega))]
          by_cases r0 : r = 0
          · rw [if_pos r0]
            unfold ub_
            rw [if_neg (hri r0)]
            exact b10 i hi hri
          · rw [if_neg r0]
            exact b10 i hi hri
        have hOP3 : OP_ f L p n c o0 st m r p2 K3 (o ++ (t ++ o2)) (t2 ++ [oc_ (f p1)]) s3 := by
          refine ⟨d1, d2, hr3, ?_, ?_, ?_, fun x hx => ?_, d8, d9, hcm, d11, fun d => ?_⟩
          · simp only [List.length_append, List.length_cons, List.length_nil] at d4 b4 ⊢
            omega
          · rw [d5]; simp only [List.append_assoc]
          · rw [d6, List.append_assoc]; rfl
          · rcases List.mem_append.mp hx with hx | hx
            · exact lk_w (d7 x hx)
            · rw [List.mem_singleton.mp hx]
              unfold lk_
              have o0' := oc_s (c := f p1) (fun e => by
                have := c1.2
                rw [e] at this
                have h00 : sn_ 0 = 0 := rfl
                omega)
              rw [c1.2, decide_eq_false (show ¬ oc_ (f p1) = 40 by omega), decide_eq_true (Nat.le_refl _)]
              rfl
          · have o0' := oc_s (c := f p1) (fun e => by
              have := c1.2
              rw [e] at this
              have h00 : sn_ 0 = 0 := rfl
              omega)
            have g := gc_ap (b := [oc_ (f p1)]) ((o ++ t) ++ (o2 ++ t2)) (gc_ap (o ++ t) (b12 d) (d12 (d + 1))) (show gc_ (d + 1 + 1) [oc_ (f p1)] (d + 1) from ⟨Or.inr (Or.inr (Or.inl ⟨o0'.1, o0'.2, by omega⟩)), by
              show d + 1 = nd_ (oc_ (f p1)) (d + 1 + 1)
              unfold nd_
              rw [if_neg (by omega), if_neg (by omega)]
              rfl⟩)
            simp only [List.append_assoc] at g ⊢
            exact g
        refine ⟨by omega, _, rfl, hE2.tr x3, p2, K3, _, _, by omega, hOP3, fun hp => ?_, ?_⟩
        · rcases hS2 hp with e | ⟨e, -⟩
          · exact e
          · omega
        · by_cases r0 : r = 0
          · right
            refine ⟨by dsimp only; rw [if_pos (show nI r ≤ 0 by rw [r0]; decide)]; rfl, r0, ?_⟩
            rw [d10 n (Nat.le_refl _) (fun x => absurd x (by omega)), if_pos r0]
            unfold ub_
            rw [if_pos rfl]
          · left
            exact ⟨by dsimp only; rw [if_neg (show ¬ nI r ≤ 0 from nI_nle (by omega) (by omega))]; rfl, fun x => absurd x r0⟩
      · right
        rw [if_pos (show nI 0 = 0 from rfl)]
        refine ⟨_, rfl, Or.inl ⟨s2, rfl, hE2, p', K', c', by omega, f2, f3, f4, f5, ?_, f7, f8⟩⟩
        rw [List.length_append] at f6
        omega
    · rw [if_neg c1] at ht
      right
      rw [bi_nd ht]
      dsimp only
      rw [if_neg (by decide)]
      refine ⟨_, rfl, Or.inr ⟨w, Or.inl rfl, hE, p1, K1, o, t, by omega, hOP, fun hp => Or.inl ?_⟩⟩
      have h1 := hST hp
      have h2 : sn_ (oc_ (f p1)) ≠ r + 1 := fun x => c1 ⟨hp, x⟩
      omega
  · right
    dsimp only at hE hOP ⊢
    unfold f_X12_readsRank_s24
    rw [if_pos (show nI 0 = 0 from rfl)]
    refine ⟨_, rfl, Or.inr ⟨w, Or.inr rfl, hE, p1, K1, o, t, by omega, hOP, fun hp => ?_⟩⟩
    have h1 := hST hp
    by_cases q : sn_ (oc_ (f p1)) = 1
    · exact Or.inr ⟨r0, q, hm⟩
    · exact Or.inl (by omega)
theorem rn_s {f : Nat → Nat} {L d : Nat} (hL : L ≤ 40) (hT : TH_ f L d) (hR : RN_ f L d) : RN_ f L (d + 1) := by
  intro p n c o0 st m s r hr h hc hK hB hm hd
  have hpL := h.1.2.2.2.1
  rw [ra_b]
  unfold f_X12_readsRank_b
  by_cases r3 : r = 3
  · subst r3
    rw [if_pos (show nI 3 = 3 from rfl)]
    obtain ⟨v, s', e1, hE, hv⟩ := hT p n c o0 st m s h hc hK (by omega)
    rw [bi_nd e1]
    dsimp only
    have hnb : nb (nI v) = true := by
      rcases hv with ⟨rfl, -⟩ | ⟨rfl, -⟩
      · exact nb_1
      · exact nb_0
    rw [gd_t hnb]
    exact ⟨v, s', rfl, hE, hv⟩
  rw [if_neg (show ¬ nI r = 3 from fun x => r3 ((nI_eq (b := 3) (by omega) (by omega)).mp x)), nI_1]
  obtain ⟨v, s1, e1, hE, hv⟩ := hR p n c o0 st m s (r + 1) (by omega) h hc hK (bk_1 hB) (fun e => absurd e (by omega)) (by omega)
  rw [bi_nd e1]
  dsimp only
  rcases hv with ⟨rfl, p1, K1, o, t, q0, ⟨b1, b2, b3, b4, b5, b6, b7, b8, b9, b10, b11, b12⟩, hST⟩ | ⟨rfl, hF⟩
  · rw [if_neg (show ¬ nI 1 = 0 by decide)]
    have hI0 : LI_ f L p n c o0 st m r s 0 ((1 : Int32), s1) := by
      refine ⟨hE, p1, K1, o, t, by omega, ⟨b1, b2, b3, b4, b5, b6, fun x hx => lk_w (b7 x hx), b8, b9, fun i hi _ => b10 i hi (fun x => absurd x (by omega)), b11, b12⟩, fun hp => ?_, Or.inl ⟨rfl, fun e => ?_⟩⟩
      · rcases hST hp with e | ⟨e, -⟩
        · exact e
        · omega
      · rw [b10 n (Nat.le_refl _) (fun x => absurd x (by omega))]; exact hm e
    obtain ⟨x, e2, hx⟩ := it_inx (step := fun z : Int32 × St => f_X12_readsRank_s24 (f_X12_readsThing d) (f_X12_readsRank d) z.2 (nI r) z.1) (s := ((1 : Int32), s1)) (LI_ f L p n c o0 st m r s) (LQ_ f L p n c o0 st m r s) 41 (by omega) hI0 (fun k z _ hI => rn_l hL hR (by omega) hc hB hd hI)
    rcases hx with ⟨s', rfl, x1, x2⟩ | ⟨s', rfl | rfl, x1, x2⟩
    · exact ⟨0, s', bi_nd e2, x1, Or.inr ⟨rfl, x2⟩⟩
    · exact ⟨1, s', bi_nd e2, x1, Or.inl ⟨rfl, x2⟩⟩
    · exact ⟨1, s', bi_nd e2, x1, Or.inl ⟨rfl, x2⟩⟩
  · rw [if_pos (show nI 0 = 0 from rfl)]
    exact ⟨0, s1, rfl, hE, Or.inr ⟨rfl, hF⟩⟩
theorem rr_m {f : Nat → Nat} {L : Nat} (hL : L ≤ 40) : ∀ d, TH_ f L d ∧ RN_ f L d := by
  intro d
  induction d with
  | zero => exact ⟨fun p n c o0 st m s _ _ _ h => absurd h (by omega), fun p n c o0 st m s r _ _ _ _ _ _ h => absurd h (by omega)⟩
  | succ d ih => exact ⟨th_s hL ih.1 ih.2, rn_s hL ih.1 ih.2⟩
