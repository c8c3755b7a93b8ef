/-! LAYER 2: a rule's signs taken one by one; the class's code and what waits. -/
def oc_ (c : Nat) : Nat := if c = 60 then 2000 else if c = 62 then 2001 else if c = 61 then 2002 else if c = 43 then 2003 else if c = 45 then 2004 else if c = 42 then 2005 else if c = 47 then 2006 else 0
def lc_ (c : Nat) : Nat := if c = 102 then 1000 else if c = 118 then 1001 else if c = 107 then 1002 else if c = 119 then 1003 else if c = 99 then 1004 else if c = 112 then 1005 else if c = 110 then 1006 else 0
def sn_ (c : Nat) : Nat := if c < 2000 then 0 else if c < 2003 then 1 else if c < 2005 then 2 else if c < 2007 then 3 else 4
def ws_ (c : Nat) : Nat := if c = 40 then 40 else en_ c - 1000
def okS (a : Nat) : Prop := a = 40 ∨ (2000 ≤ a ∧ a < 2007) ∨ a = 3000
def lk_ (q a : Nat) : Bool := !decide (a = 40) && decide (q ≤ sn_ a)
/-- what a release lets come, what it keeps -/
def rp_ (q : Nat) : List Nat → List Nat
  | [] => []
  | a :: s => if lk_ q a = true then a :: rp_ q s else []
def rk_ (q : Nat) : List Nat → List Nat
  | [] => []
  | a :: s => if lk_ q a = true then rk_ q s else a :: s
theorem rp_c (q a : Nat) (s : List Nat) : rp_ q (a :: s) = if lk_ q a = true then a :: rp_ q s else [] := rfl
theorem rk_c (q a : Nat) (s : List Nat) : rk_ q (a :: s) = if lk_ q a = true then rk_ q s else a :: s := rfl
theorem rl_n (q : Nat) : ∀ s : List Nat, (rp_ q s).length + (rk_ q s).length = s.length
  | [] => rfl
  | a :: s => by
    rw [rp_c, rk_c]
    by_cases h : lk_ q a = true
    · rw [if_pos h, if_pos h, List.length_cons, List.length_cons, ← rl_n q s]; omega
    · rw [if_neg h, if_neg h]; exact Nat.zero_add _
theorem rk_m {q x : Nat} : ∀ s : List Nat, x ∈ rk_ q s → x ∈ s
  | [], h => h
  | a :: s, h => by
    rw [rk_c] at h
    by_cases c : lk_ q a = true
    · rw [if_pos c] at h; exact List.mem_cons_of_mem a (rk_m s h)
    · rw [if_neg c] at h; exact h
/-- all of t comes, no more -/
theorem rl_ap {q : Nat} {s0 : List Nat} : ∀ t : List Nat, (∀ x, x ∈ t → lk_ q x = true) → rp_ q s0 = [] → rk_ q s0 = s0 → rp_ q (t ++ s0) = t ∧ rk_ q (t ++ s0) = s0
  | [], _, h1, h2 => ⟨h1, h2⟩
  | a :: t, h, h1, h2 => by
    have ha := h a List.mem_cons_self
    obtain ⟨i1, i2⟩ := rl_ap t (fun x hx => h x (List.mem_cons_of_mem a hx)) h1 h2
    rw [List.cons_append, rp_c, rk_c, if_pos ha, if_pos ha, i1, i2]
    exact ⟨rfl, rfl⟩
theorem gL_ : ∀ (o s : List Nat) (i : Nat), i < o.length → (o ++ s).getD i 0 = o.getD i 0
  | [], _, _, h => absurd h (Nat.not_lt_zero _)
  | _ :: _, _, 0, _ => rfl
  | _ :: o, s, i + 1, h => gL_ o s i (Nat.lt_of_succ_lt_succ h)
theorem gE_ : ∀ (o : List Nat) (x : Nat), (o ++ [x]).getD o.length 0 = x
  | [], _ => rfl
  | _ :: o, x => gE_ o x
theorem len1 (o : List Nat) (x : Nat) : (o ++ [x]).length = o.length + 1 := by rw [List.length_append]; rfl
def ub_ (m : Nat → Bool) (i : Nat) (b : Bool) : Nat → Bool := fun j => if j = i then b else m j
abbrev Ks_ : Type := List Nat × List Nat × Nat × (Nat → Bool) × Nat × Bool
def tk_ (K : Ks_) (c : Nat) : Option Ks_ :=
  if dg c = true then
    (if K.2.2.2.2.1 = 3 then none else if K.2.2.2.2.1 = 0 then (if K.2.2.2.2.2 = true then none else some (K.1 ++ [c - 48], K.2.1, K.2.2.1, K.2.2.2.1, 1, true))
     else some (K.1.dropLast ++ [10 * K.1.getLast?.getD 0 + (c - 48)], K.2.1, K.2.2.1, K.2.2.2.1, K.2.2.2.2.1 + 1, true))
  else if K.2.2.2.2.2 = true then
    (if c = 41 then (if K.2.2.1 = 0 then none else some (K.1 ++ rp_ 1 K.2.1, (rk_ 1 K.2.1).tail, K.2.2.1 - 1, K.2.2.2.1, 0, true))
     else if oc_ c = 0 then none else if sn_ (oc_ c) = 1 then (if K.2.2.2.1 K.2.2.1 = true then none else some (K.1 ++ rp_ 1 K.2.1, oc_ c :: rk_ 1 K.2.1, K.2.2.1, ub_ K.2.2.2.1 K.2.2.1 true, 0, false))
     else some (K.1 ++ rp_ (sn_ (oc_ c)) K.2.1, oc_ c :: rk_ (sn_ (oc_ c)) K.2.1, K.2.2.1, K.2.2.2.1, 0, false))
  else (if c = 45 then some (K.1, 3000 :: K.2.1, K.2.2.1, K.2.2.2.1, 0, false)
     else if c = 40 then (if 4 ≤ K.2.2.1 then none else some (K.1, 40 :: K.2.1, K.2.2.1 + 1, ub_ K.2.2.2.1 (K.2.2.1 + 1) false, 0, false))
     else if lc_ c = 0 then none else some (K.1 ++ [lc_ c], K.2.1, K.2.2.1, K.2.2.2.1, 0, true))
def KS_ (f : Nat → Nat) : Nat → Option Ks_
  | 0 => some ([], [], 0, fun _ => false, 0, false)
  | p + 1 => (KS_ f p).bind (fun K => tk_ K (f p))
theorem KS_s {f : Nat → Nat} {p : Nat} {K : Ks_} (h : KS_ f p = some K) : KS_ f (p + 1) = tk_ K (f p) := by
  show (KS_ f p).bind _ = _
  rw [bi_nd h]
theorem KS_p {f : Nat → Nat} {p : Nat} {K : Ks_} (h : KS_ f p = some K) : ∀ i, i ≤ p → ∃ K', KS_ f i = some K' := by
  induction p generalizing K with
  | zero => intro i hi; exact ⟨K, by rw [show i = 0 by omega]; exact h⟩
  | succ p ih =>
    intro i hi
    by_cases e : i = p + 1
    · exact ⟨K, by rw [e]; exact h⟩
    · obtain ⟨K1, h1, -⟩ := bd_some (show (KS_ f p).bind (fun K => tk_ K (f p)) = some K from h)
      exact ih h1 i (by omega)
/-- what stands of the machine behind p signs -/
def KI_ (p : Nat) (K : Ks_) : Prop := K.1.length + K.2.1.length ≤ p ∧ K.2.2.1 ≤ 4 ∧ K.2.2.2.2.1 ≤ 3 ∧ (0 < K.2.2.2.2.1 → ∃ o v, K.1 = o ++ [v] ∧ v < 10 ^ K.2.2.2.2.1) ∧ ∀ x, x ∈ K.2.1 → okS x
theorem dl_1 (o : List Nat) (v : Nat) : (o ++ [v]).dropLast = o := List.dropLast_concat
theorem gl_1 (o : List Nat) (v : Nat) : (o ++ [v]).getLast?.getD 0 = v := by rw [List.getLast?_concat]; rfl
theorem oc_s {c : Nat} (h : oc_ c ≠ 0) : 2000 ≤ oc_ c ∧ oc_ c < 2007 := by
  unfold oc_ at h ⊢
  repeat' split
  all_goals first | omega | (exfalso; apply h; simp_all)
theorem rp_l (q : Nat) (s : List Nat) : (rk_ q s).length ≤ s.length := by have := rl_n q s; omega
theorem tl_l (s : List Nat) : s.tail.length ≤ s.length := by cases s with | nil => exact Nat.le_refl _ | cons a s => exact Nat.le_succ _
theorem tl_m {x : Nat} (s : List Nat) (h : x ∈ s.tail) : x ∈ s := by cases s with | nil => exact h | cons a s => exact List.mem_cons_of_mem a h
theorem KI_k {p c : Nat} {K K' : Ks_} (hI : KI_ p K) (h : tk_ K c = some K') : KI_ (p + 1) K' := by
  obtain ⟨o, s, n, m, d, b⟩ := K
  obtain ⟨i1, i2, i3, i4, i5⟩ := hI
  dsimp only at i1 i2 i3 i4 i5
  have hr1 := rl_n 1 s
  have hrq := rl_n (sn_ (oc_ c)) s
  unfold tk_ at h
  dsimp only at h
  by_cases c0 : dg c = true
  · have hd : 48 ≤ c ∧ c ≤ 57 := of_decide_eq_true c0
    rw [if_pos c0] at h
    by_cases d3 : d = 3
    · rw [if_pos d3] at h; cases h
    rw [if_neg d3] at h
    by_cases d0 : d = 0
    · rw [if_pos d0] at h
      by_cases hb : b = true
      · rw [if_pos hb] at h; cases h
      rw [if_neg hb] at h
      cases h
      exact ⟨by show (o ++ [c - 48]).length + s.length ≤ p + 1; rw [len1]; omega, i2, by show 1 ≤ 3; omega, fun _ => ⟨o, c - 48, rfl, by show c - 48 < 10; omega⟩, i5⟩
    · rw [if_neg d0] at h
      obtain ⟨o1, v, e, hv⟩ := i4 (by omega)
      subst e
      rw [dl_1, gl_1] at h
      cases h
      rw [len1] at i1
      refine ⟨by show (o1 ++ [10 * v + (c - 48)]).length + s.length ≤ p + 1; rw [len1]; omega, i2, by show d + 1 ≤ 3; omega, fun _ => ⟨o1, _, rfl, ?_⟩, i5⟩
      show 10 * v + (c - 48) < 10 ^ (d + 1)
      rw [Nat.pow_succ]; omega
  rw [if_neg c0] at h
  by_cases hb : b = true
  · rw [if_pos hb] at h
    by_cases c1 : c = 41
    · rw [if_pos c1] at h
      by_cases n0 : n = 0
      · rw [if_pos n0] at h; cases h
      rw [if_neg n0] at h
      cases h
      have := tl_l (rk_ 1 s)
      exact ⟨by show (o ++ rp_ 1 s).length + (rk_ 1 s).tail.length ≤ p + 1; rw [List.length_append]; omega, by show n - 1 ≤ 4; omega, by show 0 ≤ 3; omega, fun x => absurd x (by show ¬ 0 < 0; omega), fun x hx => i5 x (rk_m s (tl_m _ hx))⟩
    rw [if_neg c1] at h
    by_cases o0 : oc_ c = 0
    · rw [if_pos o0] at h; cases h
    rw [if_neg o0] at h
    by_cases s1 : sn_ (oc_ c) = 1
    · rw [if_pos s1] at h
      by_cases hm : m n = true
      · rw [if_pos hm] at h; cases h
      rw [if_neg hm] at h
      cases h
      exact ⟨by show (o ++ rp_ 1 s).length + (rk_ 1 s).length.succ ≤ p + 1; rw [List.length_append]; omega, i2, by show 0 ≤ 3; omega, fun x => absurd x (by show ¬ 0 < 0; omega), fun x hx => (List.mem_cons.mp hx).elim (fun e => by rw [e]; exact Or.inr (Or.inl (oc_s o0))) (fun hx => i5 x (rk_m s hx))⟩
    · rw [if_neg s1] at h
      cases h
      exact ⟨by show (o ++ rp_ _ s).length + (rk_ _ s).length.succ ≤ p + 1; rw [List.length_append]; omega, i2, by show 0 ≤ 3; omega, fun x => absurd x (by show ¬ 0 < 0; omega), fun x hx => (List.mem_cons.mp hx).elim (fun e => by rw [e]; exact Or.inr (Or.inl (oc_s o0))) (fun hx => i5 x (rk_m s hx))⟩
  · rw [if_neg hb] at h
    by_cases c1 : c = 45
    · rw [if_pos c1] at h
      cases h
      exact ⟨by show o.length + s.length.succ ≤ p + 1; omega, i2, by show 0 ≤ 3; omega, fun x => absurd x (by show ¬ 0 < 0; omega), fun x hx => (List.mem_cons.mp hx).elim (fun e => by rw [e]; exact Or.inr (Or.inr rfl)) (fun hx => i5 x hx)⟩
    rw [if_neg c1] at h
    by_cases c2 : c = 40
    · rw [if_pos c2] at h
      by_cases n4 : 4 ≤ n
      · rw [if_pos n4] at h; cases h
      rw [if_neg n4] at h
      cases h
      exact ⟨by show o.length + s.length.succ ≤ p + 1; omega, by show n + 1 ≤ 4; omega, by show 0 ≤ 3; omega, fun x => absurd x (by show ¬ 0 < 0; omega), fun x hx => (List.mem_cons.mp hx).elim (fun e => by rw [e]; exact Or.inl rfl) (fun hx => i5 x hx)⟩
    rw [if_neg c2] at h
    by_cases l0 : lc_ c = 0
    · rw [if_pos l0] at h; cases h
    rw [if_neg l0] at h
    cases h
    exact ⟨by show (o ++ [lc_ c]).length + s.length ≤ p + 1; rw [len1]; omega, i2, by show 0 ≤ 3; omega, fun x => absurd x (by show ¬ 0 < 0; omega), i5⟩
theorem KI_f {f : Nat → Nat} : ∀ (p : Nat) {K : Ks_}, KS_ f p = some K → KI_ p K := by
  intro p
  induction p with
  | zero =>
    intro K h
    cases h
    exact ⟨by show 0 + 0 ≤ 0; omega, by show 0 ≤ 4; omega, by show 0 ≤ 3; omega, fun x => absurd x (by show ¬ 0 < 0; omega), fun x hx => absurd hx List.not_mem_nil⟩
  | succ p ih =>
    intro K h
    obtain ⟨K1, h1, h2⟩ := bd_some (show (KS_ f p).bind (fun K => tk_ K (f p)) = some K from h)
    exact KI_k (ih h1) h2
