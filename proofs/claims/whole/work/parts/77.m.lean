/-! LAYER 2: the reference reads a thing, beside the class's machine. -/
def nd_ (x d : Nat) : Nat := if x = 3000 then d else if x < 2000 then d + 1 else d - 1
def gc_ : Nat → List Nat → Nat → Prop
  | d, [], e => e = d
  | d, x :: l, e => okc x d ∧ gc_ (nd_ x d) l e
def GC_ (l : List Nat) : Prop := ∀ d, gc_ d l (d + 1)
theorem gc_ap {b : List Nat} : ∀ (a : List Nat) {d e g : Nat}, gc_ d a e → gc_ e b g → gc_ d (a ++ b) g
  | [], d, e, g, h, k => by
    have h : e = d := h
    rw [h] at k
    exact k
  | _ :: a, _, _, _, h, k => ⟨h.1, gc_ap a h.2 k⟩
def BK_ (q : Nat) (s : List Nat) : Prop := rp_ q s = [] ∧ rk_ q s = s
theorem bk_c {q a : Nat} {s : List Nat} (h : lk_ q a = false) : BK_ q (a :: s) := by
  unfold BK_
  rw [rp_c, rk_c, if_neg (by rw [h]; decide), if_neg (by rw [h]; decide)]
  exact ⟨rfl, rfl⟩
theorem lk_w {q x : Nat} (h : lk_ (q + 1) x = true) : lk_ q x = true := by
  unfold lk_ at h ⊢
  rw [Bool.and_eq_true] at h ⊢
  exact ⟨h.1, decide_eq_true (by have := of_decide_eq_true h.2; omega)⟩
theorem bk_1 {q : Nat} {s : List Nat} (h : BK_ q s) : BK_ (q + 1) s := by
  cases s with
  | nil => exact ⟨rfl, rfl⟩
  | cons a s =>
    by_cases c : lk_ q a = true
    · have := h.1
      rw [rp_c, if_pos c] at this
      cases this
    · exact bk_c (Bool.eq_false_iff.mpr (fun x => c (lk_w x)))
theorem oc_n {c : Nat} (h : oc_ c ≠ 0) : 1 ≤ sn_ (oc_ c) ∧ dg c = false ∧ c ≠ 41 := by
  have hc : c = 60 ∨ c = 62 ∨ c = 61 ∨ c = 43 ∨ c = 45 ∨ c = 42 ∨ c = 47 := by
    unfold oc_ at h
    repeat' (split at h; omega)
    exact absurd rfl h
  rcases hc with rfl | rfl | rfl | rfl | rfl | rfl | rfl <;> decide
theorem sn_3 (c : Nat) : sn_ (oc_ c) ≤ 3 := by
  by_cases h : oc_ c = 0
  · rw [h]; decide
  · have := oc_s h
    unfold sn_
    repeat' split
    all_goals omega
theorem tk_st {K : Ks_} {c n : Nat} (hb : K.2.2.2.2.2 = true) (hn : K.2.2.1 = n) (hd : dg c = true → K.2.2.2.2.1 = 0 ∨ K.2.2.2.2.1 = 3) (hs : sn_ (oc_ c) ≤ 0 ∨ (sn_ (oc_ c) = 1 ∧ K.2.2.2.1 n = true)) (h41 : c ≠ 41 ∨ n = 0) : tk_ K c = none := by
  unfold tk_
  by_cases c0 : dg c = true
  · rw [if_pos c0]
    rcases hd c0 with e | e
    · rw [if_neg (by omega), if_pos e, if_pos hb]
    · rw [if_pos e]
  rw [if_neg c0, if_pos hb]
  by_cases c1 : c = 41
  · rw [if_pos c1, if_pos (by omega)]
  rw [if_neg c1]
  by_cases o0 : oc_ c = 0
  · rw [if_pos o0]
  have h1 := (oc_n o0).1
  rcases hs with e | ⟨e1, e2⟩
  · omega
  · rw [if_neg o0, if_pos e1, hn, if_pos e2]
theorem tk_op {K : Ks_} {c q : Nat} (hb : K.2.2.2.2.2 = true) (h0 : sn_ (oc_ c) = q + 1) (hm : q = 0 → K.2.2.2.1 K.2.2.1 = false) : tk_ K c = some (K.1 ++ rp_ (q + 1) K.2.1, oc_ c :: rk_ (q + 1) K.2.1, K.2.2.1, (if q = 0 then ub_ K.2.2.2.1 K.2.2.1 true else K.2.2.2.1), 0, false) := by
  have o0 : oc_ c ≠ 0 := fun e => by
    rw [e] at h0
    have : sn_ 0 = 0 := rfl
    omega
  obtain ⟨a1, a2, a3⟩ := oc_n o0
  unfold tk_
  rw [if_neg (by rw [a2]; decide), if_pos hb, if_neg a3, if_neg o0, h0]
  by_cases q0 : q = 0
  · subst q0
    rw [if_pos rfl, hm rfl, if_neg (by decide), if_pos rfl]
  · rw [if_neg (by omega), if_neg q0]
def OP_ (f : Nat → Nat) (L p n : Nat) (c o0 st : List Nat) (m : Nat → Bool) (r p' : Nat) (K' : Ks_) (o t : List Nat) (s' : St) : Prop :=
  p' ≤ L ∧ KS_ f p' = some K' ∧ RP_ f L p' n (c ++ (o ++ t)) s' ∧ (o ++ t).length + p ≤ p' ∧ K'.1 = o0 ++ o ∧ K'.2.1 = t ++ st ∧ (∀ x, x ∈ t → lk_ (r + 1) x = true) ∧ K'.2.2.2.2.2 = true ∧ K'.2.2.1 = n ∧ (∀ i, i ≤ n → (r = 0 → i ≠ n) → K'.2.2.2.1 i = m i) ∧ (p' < L → dg (f p') = true → K'.2.2.2.2.1 = 0 ∨ K'.2.2.2.2.1 = 3) ∧ GC_ (o ++ t)
def ST_ (f : Nat → Nat) (L r p' n : Nat) (K' : Ks_) : Prop := p' < L → sn_ (oc_ (f p')) ≤ r ∨ (r = 0 ∧ sn_ (oc_ (f p')) = 1 ∧ K'.2.2.2.1 n = true)
def FL_ (f : Nat → Nat) (L p cl : Nat) (s' : St) : Prop := ∃ p' K' c', p ≤ p' ∧ p' ≤ L ∧ KS_ f p' = some K' ∧ RA_ f L p' s' ∧ cF s' 300 18 = nI c' ∧ c' + p ≤ p' + cl ∧ (p' < L → tk_ K' (f p') = none) ∧ (p' = L → K'.2.2.2.2.2 = false ∨ K'.2.2.1 ≠ 0)
def RES_ (f : Nat → Nat) (L p n : Nat) (c o0 st : List Nat) (m : Nat → Bool) (r : Nat) (s : St) (x : Option (Int32 × St)) : Prop :=
  ∃ (v : Nat) (s' : St), x = some (nI v, s') ∧ EP_ s s' ∧ ((v = 1 ∧ ∃ p' K' o t, p < p' ∧ OP_ f L p n c o0 st m r p' K' o t s' ∧ ST_ f L r p' n K') ∨ (v = 0 ∧ FL_ f L p c.length s'))
def TH_ (f : Nat → Nat) (L d : Nat) : Prop := ∀ (p n : Nat) (c o0 st : List Nat) (m : Nat → Bool) (s : St), RP_ f L p n c s → c.length ≤ p → KS_ f p = some (o0, st, n, m, 0, false) → 5 * (L - p) + 1 ≤ d → RES_ f L p n c o0 st m 3 s (f_X12_readsThing d s)
def RN_ (f : Nat → Nat) (L d : Nat) : Prop := ∀ (p n : Nat) (c o0 st : List Nat) (m : Nat → Bool) (s : St) (r : Nat), r ≤ 3 → RP_ f L p n c s → c.length ≤ p → KS_ f p = some (o0, st, n, m, 0, false) → BK_ (r + 1) st → (r = 0 → m n = false) → 5 * (L - p) + 5 ≤ d + r → RES_ f L p n c o0 st m r s (f_X12_readsRank d s (nI r))
theorem th_s {f : Nat → Nat} {L d : Nat} (hL : L ≤ 40) (hT : TH_ f L d) (hR : RN_ f L d) : TH_ f L (d + 1) := by
  intro p n c o0 st m s h hc hK hd
  have hA := h.1
  have hpL := hA.2.2.2.1
  have n4 : n ≤ 4 := (KI_f p hK).2.1
  have ht := x12_t1 (c := 45) hA (by omega)
  show RES_ f L p n c o0 st m 3 s (f_X12_readsThing_b (f_X12_readsThing d) (f_X12_readsRank d) s)
  unfold f_X12_readsThing_b
  by_cases c1 : p < L ∧ f p = 45
  · rw [if_pos c1] at ht
    have hK1 : KS_ f (p + 1) = some (o0, 3000 :: st, n, m, 0, false) := by
      rw [KS_s hK, c1.2]
      rfl
    obtain ⟨v, s', e1, hE, hv⟩ := hT (p + 1) n c o0 (3000 :: st) m _ (h.at (p' := p + 1) c1.1) (by omega) hK1 (by omega)
    rw [bi_nd (show f_X12_takes s (45 : Int32) = _ from ht)]
    dsimp only
    rw [if_neg (show ¬ nI 1 = 0 by decide), bi_nd e1]
    dsimp only
    have hE0 : EP_ s s' := ((EP_.rf s).f (by omega)).tr hE
    rcases hv with ⟨rfl, p', K', o, t, q0, ⟨b1, b2, b3, b4, b5, b6, b7, b8, b9, b10, b11, b12⟩, hST⟩ | ⟨rfl, p', K', c', f1, f2, f3, f4, f5, f6, f7, f8⟩
    · obtain ⟨s2, e2, r2, x2⟩ := x12_ko b3 (by rw [List.length_append]; omega) 3000
      rw [bi_nd (show f_X12_codes s' (3000 : Int32) = some s2 from e2), gd_t (show nb (nI 1) = true from nb_1)]
      refine ⟨1, s2, rfl, hE0.tr x2, Or.inl ⟨rfl, p', K', o, t ++ [3000], by omega, ⟨b1, b2, ?_, ?_, b5, ?_, fun x hx => ?_, b8, b9, b10, b11, fun d => ?_⟩, hST⟩⟩
      · simpa only [List.append_assoc] using r2
      · simp only [List.length_append, List.length_cons, List.length_nil] at b4 ⊢
        omega
      · rw [b6, List.append_assoc]; rfl
      · rcases List.mem_append.mp hx with hx | hx
        · exact b7 x hx
        · rw [List.mem_singleton.mp hx]; decide
      · have := gc_ap (b := [3000]) (o ++ t) (b12 d) (show gc_ (d + 1) [3000] (d + 1) from ⟨Or.inr (Or.inr (Or.inr ⟨rfl, by omega⟩)), rfl⟩)
        rw [List.append_assoc] at this
        exact this
    · obtain ⟨s2, e2, a2, k2, x2⟩ := x12_cf (x := (3000 : Int32)) f4 f5 (by omega)
      rw [bi_nd e2, gd_t (show nb (nI 0) = true from nb_0)]
      exact ⟨0, s2, rfl, hE0.tr x2, Or.inr ⟨rfl, p', K', c' + 1, by omega, f2, f3, a2, k2, by omega, f7, f8⟩⟩
  rw [if_neg c1] at ht
  rw [bi_nd (show f_X12_takes s (45 : Int32) = _ from ht)]
  dsimp only
  rw [if_pos (show nI 0 = 0 from rfl)]
  have h1 := h.at hpL
  have hE1 : EP_ s (sF s 300 10 (nI p)) := (EP_.rf s).f (by omega)
  generalize sF s 300 10 (nI p) = s1 at h1 hE1 ⊢
  rw [bi_nd (x12_id h1.1)]
  by_cases c2 : p < L ∧ dg (f p) = true
  · rw [decide_eq_true c2.1, c2.2, if_neg (show ¬ nI (true && true).toNat = 0 by decide)]
    obtain ⟨k, v, s2, q1, q2, q3, q4, q5, q6, q7, q8, q9⟩ := x12_n3 h1 c2.1 c2.2 hK
    obtain ⟨s3, e3, r3, x3⟩ := x12_ko q6 (by omega) v
    rw [bi_nd q5]
    dsimp only
    rw [bi_nd e3]
    refine ⟨1, s3, rfl, (hE1.tr q7).tr x3, Or.inl ⟨rfl, p + k, _, [v], [], by omega, ⟨q3, q8, r3, ?_, rfl, rfl, fun x hx => absurd hx List.not_mem_nil, rfl, rfl, fun i _ _ => rfl, fun a b => Or.inr (q9 a b), fun d => ⟨Or.inl q4, ?_⟩⟩, fun _ => Or.inl (sn_3 _)⟩⟩
    · show 1 + p ≤ p + k; omega
    · show d + 1 = nd_ v d
      unfold nd_
      rw [if_neg (by omega), if_pos (by omega)]
  have e0 : (decide (p < L) && dg (f p)) = false := by
    cases hd2 : dg (f p)
    · simp
    · rw [decide_eq_false (fun x => c2 ⟨x, hd2⟩)]; rfl
  rw [e0, if_pos (show nI (false).toNat = 0 from rfl)]
  have htl := x12_tl h1.1
  by_cases c3 : p < L ∧ lc_ (f p) ≠ 0
  · obtain ⟨a1, -, -, a4, a5⟩ := (tl_4 _ (hA.2.2.2.2 p c3.1).1).1 c3.2
    rw [if_pos c3] at htl
    obtain ⟨s3, e3, r3, x3⟩ := x12_ko (h1.at (p' := p + 1) c3.1) (by omega) (lc_ (f p))
    rw [bi_nd htl]
    dsimp only
    rw [if_neg (nI_pos (by omega)), show (1000 : Int32) + nI (lc_ (f p) - 1000) = nI (lc_ (f p)) by rw [show (1000 : Int32) = nI 1000 from rfl, nI_add, show 1000 + (lc_ (f p) - 1000) = lc_ (f p) by omega], bi_nd e3]
    have hK1 : KS_ f (p + 1) = some (o0 ++ [lc_ (f p)], st, n, m, 0, true) := by
      rw [KS_s hK]
      unfold tk_
      dsimp only
      rw [if_neg (fun x => c2 ⟨c3.1, x⟩), if_neg (by decide), if_neg (fun x => c1 ⟨c3.1, x⟩), if_neg a5, if_neg c3.2]
    refine ⟨1, s3, rfl, (hE1.tr ((EP_.rf s1).f (by omega))).tr x3, Or.inl ⟨rfl, p + 1, _, [lc_ (f p)], [], by omega, ⟨c3.1, hK1, r3, ?_, rfl, rfl, fun x hx => absurd hx List.not_mem_nil, rfl, rfl, fun i _ _ => rfl, fun a b => Or.inl rfl, fun d => ⟨Or.inr (Or.inl ⟨a4, by omega⟩), ?_⟩⟩, fun _ => Or.inl (sn_3 _)⟩⟩
    · show 1 + p ≤ p + 1; omega
    · show d + 1 = nd_ (lc_ (f p)) d
      unfold nd_
      rw [if_neg (by omega), if_pos (by omega)]
  rw [if_neg c3] at htl
  rw [bi_nd htl]
  dsimp only
  rw [if_pos (show (-1 : Int32) < 0 by decide), h1.2.1]
  have fl : ∀ s2, RA_ f L p s2 → cF s2 300 18 = nI c.length → (n = 4 ∨ ¬ (p < L ∧ f p = 40)) → FL_ f L p c.length s2 := fun s2 g1 g2 g3 => by
    refine ⟨p, _, c.length, Nat.le_refl _, hpL, hK, g1, g2, by omega, fun hp => ?_, fun _ => Or.inl rfl⟩
    unfold tk_
    dsimp only
    rw [if_neg (fun x => c2 ⟨hp, x⟩), if_neg (by decide), if_neg (fun x => c1 ⟨hp, x⟩)]
    by_cases c4 : f p = 40
    · rw [if_pos c4, if_pos (by rcases g3 with g3 | g3; omega; exact absurd ⟨hp, c4⟩ g3)]
    · rw [if_neg c4, if_pos (by by_cases q : lc_ (f p) = 0; exact q; exact absurd ⟨hp, q⟩ c3)]
  by_cases n4' : n = 4
  · rw [if_pos (show nI n = 4 by rw [n4']; rfl)]
    exact ⟨0, s1, rfl, hE1, Or.inr ⟨rfl, fl s1 h1.1 h1.2.2.1 (Or.inl n4')⟩⟩
  rw [if_neg (show ¬ nI n = 4 from fun x => n4' ((nI_eq (b := 4) (by omega) (by omega)).mp x))]
  have ht2 := x12_t1 (c := 40) h1.1 (by omega)
  by_cases c4 : p < L ∧ f p = 40
  · rw [if_pos c4] at ht2
    rw [bi_nd (show f_X12_takes s1 (40 : Int32) = _ from ht2)]
    dsimp only
    have h2 := (h1.at (p' := p + 1) c4.1).ne (n + 1)
    have hK2 : KS_ f (p + 1) = some (o0, 40 :: st, n + 1, ub_ m (n + 1) false, 0, false) := by
      rw [KS_s hK, c4.2]
      unfold tk_
      dsimp only
      rw [if_neg (by decide), if_neg (by decide), if_neg (by decide), if_pos rfl, if_neg (by omega)]
    obtain ⟨v, s2, e2, x2, hv⟩ := hR (p + 1) (n + 1) c o0 (40 :: st) _ _ 0 (by omega) h2 (by omega) hK2 (bk_c rfl) (fun _ => by unfold ub_; rw [if_pos rfl]) (by omega)
    rw [if_neg (show ¬ nI 1 = 0 by decide), show cF (sF s1 300 10 (nI (p + 1))) 300 12 = nI n from (rFj (by omega)).trans h1.2.1, nI_1, bi_nd (show f_X12_readsRank d (sF (sF s1 300 10 (nI (p + 1))) 300 12 (nI (n + 1))) (0 : Int32) = _ from e2)]
    dsimp only
    have hE2 : EP_ s s2 := (hE1.tr (((EP_.rf s1).f (by omega)).f (by omega))).tr x2
    rcases hv with ⟨rfl, p', K', o, t, q0, ⟨b1, b2, b3, b4, b5, b6, b7, b8, b9, b10, b11, b12⟩, hST⟩ | ⟨rfl, p', K', c', f1, f2, f3, f4, f5, f6, f7, f8⟩
    · rw [if_neg (show ¬ nI 1 = 0 by decide)]
      have ht3 := x12_t1 (c := 41) b3.1 (by omega)
      by_cases c5 : p' < L ∧ f p' = 41
      · rw [if_pos c5] at ht3
        rw [bi_nd (show f_X12_takes s2 (41 : Int32) = _ from ht3)]
        dsimp only
        obtain ⟨g1, g2⟩ := rl_ap (q := 1) (s0 := 40 :: st) t b7 (bk_c (q := 1) (a := 40) (s := st) rfl).1 (bk_c (q := 1) (a := 40) (s := st) rfl).2
        have hK3 : KS_ f (p' + 1) = some (K'.1 ++ t, st, n, K'.2.2.2.1, 0, true) := by
          rw [KS_s b2, c5.2]
          unfold tk_
          rw [if_neg (by decide), if_pos b8, if_pos rfl, if_neg (by omega), b6, g1, g2, b9]
          rfl
        have h3 := (b3.at (p' := p' + 1) c5.1).ne n
        rw [if_neg (show ¬ nI 1 = 0 by decide), show cF (sF s2 300 10 (nI (p' + 1))) 300 12 = nI (n + 1) from (rFj (by omega)).trans b3.2.1, nI_pred]
        refine ⟨1, _, rfl, (hE2.f (by omega)).f (by omega), Or.inl ⟨rfl, p' + 1, _, o ++ t, [], by omega, ⟨c5.1, hK3, ?_, ?_, ?_, rfl, fun x hx => absurd hx List.not_mem_nil, rfl, rfl, fun i hi _ => ?_, fun _ _ => Or.inl rfl, ?_⟩, fun _ => Or.inl (sn_3 _)⟩⟩
        · rw [List.append_nil]; exact h3
        · rw [List.append_nil]; omega
        · show K'.1 ++ t = o0 ++ (o ++ t)
          rw [b5, List.append_assoc]
        · show K'.2.2.2.1 i = m i
          rw [b10 i (by omega) (fun _ => by omega)]
          unfold ub_
          rw [if_neg (by omega)]
        · rw [List.append_nil]; exact b12
      · rw [if_neg c5] at ht3
        rw [bi_nd (show f_X12_takes s2 (41 : Int32) = _ from ht3)]
        dsimp only
        rw [if_pos (show nI 0 = 0 from rfl)]
        have h3 := b3.at (p' := p') b1
        refine ⟨0, _, rfl, hE2.f (by omega), Or.inr ⟨rfl, p', K', (c ++ (o ++ t)).length, by omega, b1, b2, h3.1, h3.2.2.1, ?_, fun hp => ?_, fun _ => Or.inr (by omega)⟩⟩
        · rw [List.length_append]; omega
        · exact tk_st b8 b9 (b11 hp) ((hST hp).imp id (fun x => ⟨x.2.1, x.2.2⟩)) (Or.inl (fun x => c5 ⟨hp, x⟩))
    · rw [if_pos (show nI 0 = 0 from rfl)]
      exact ⟨0, s2, rfl, hE2, Or.inr ⟨rfl, p', K', c', by omega, f2, f3, f4, f5, by omega, f7, f8⟩⟩
  · rw [if_neg c4] at ht2
    rw [bi_nd (show f_X12_takes s1 (40 : Int32) = _ from ht2)]
    dsimp only
    rw [if_pos (show nI 0 = 0 from rfl)]
    have h3 := h1.at hpL
    exact ⟨0, _, rfl, hE1.f (by omega), Or.inr ⟨rfl, fl _ h3.1 h3.2.2.1 (Or.inr c4)⟩⟩
