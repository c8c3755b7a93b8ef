/-! LAYER 2: a season's signs; how the class finds the fault. -/
def kd (c : Nat) : Nat := if c = 102 then 2 else if c = 107 then 1 else if c = 110 then 1 else if c = 113 then 2 else if c = 118 then 3 else 0
def dg (c : Nat) : Bool := decide (48 ≤ c ∧ c ≤ 57)
def hx (c : Nat) : Nat := if c = 113 then 3 else 9
theorem hx_le (c : Nat) : hx c ≤ 9 := by unfold hx; split <;> omega
theorem hx_i {c x : Nat} (h : x ≤ 57) (k : c = 113 → x ≤ 51) : x ≤ 48 + hx c := by
  unfold hx
  split
  · rename_i e; exact k e
  · omega
def ip (f : Nat → Nat) : Nat → Nat
  | 0 => 0
  | m + 1 => ip f m + (1 + kd (f (ip f m)))
/-- 0: an act stands at i; else one more than how far behind i the fault is -/
def fo (f : Nat → Nat) (L i : Nat) : Nat := if kd (f i) = 0 then 1 else if ¬ (i + 1 < L ∧ dg (f (i + 1)) = true ∧ (f i = 113 → f (i + 1) ≤ 51)) then 2 else if 2 ≤ kd (f i) ∧ ¬ (i + 2 < L ∧ dg (f (i + 2)) = true) then 3 else if 3 ≤ kd (f i) ∧ ¬ (i + 3 < L ∧ dg (f (i + 3)) = true) then 4 else 0
theorem kd_le (c : Nat) : kd c ≤ 3 := by
  unfold kd
  repeat' split
  all_goals omega
theorem fo_0 {f : Nat → Nat} {L i : Nat} (h : fo f L i = 0) : 1 ≤ kd (f i) ∧ i + 1 < L ∧ dg (f (i + 1)) = true ∧ (f i = 113 → f (i + 1) ≤ 51) ∧ (2 ≤ kd (f i) → i + 2 < L ∧ dg (f (i + 2)) = true) ∧ (3 ≤ kd (f i) → i + 3 < L ∧ dg (f (i + 3)) = true) := by
  unfold fo at h
  split at h
  · omega
  split at h
  · omega
  rename_i h0 h1
  have h1 := Classical.not_not.mp h1
  split at h
  · omega
  split at h
  · omega
  rename_i h2 h3
  refine ⟨by omega, h1.1, h1.2.1, h1.2.2, fun q => ?_, fun q => ?_⟩
  · exact Classical.not_not.mp (fun x => h2 ⟨q, x⟩)
  · exact Classical.not_not.mp (fun x => h3 ⟨q, x⟩)
theorem fo_l {f : Nat → Nat} {L i : Nat} (h : fo f L i = 0) : i + (1 + kd (f i)) ≤ L := by
  obtain ⟨h1, h2, h3, h4, h5, h6⟩ := fo_0 h
  have := kd_le (f i)
  by_cases q : 3 ≤ kd (f i)
  · have := (h6 q).1; omega
  · by_cases r : 2 ≤ kd (f i)
    · have := (h5 r).1; omega
    · omega
theorem ip_ex (f : Nat → Nat) (L : Nat) : ∃ m, m ≤ L ∧ (∀ j, j < m → ip f j < L ∧ fo f L (ip f j) = 0) ∧ (ip f m = L ∨ (ip f m < L ∧ fo f L (ip f m) ≠ 0)) := by
  have key : ∀ N, (∀ j, j < N → ip f j < L ∧ fo f L (ip f j) = 0) ∨ ∃ m, m < N ∧ (∀ j, j < m → ip f j < L ∧ fo f L (ip f j) = 0) ∧ ¬ (ip f m < L ∧ fo f L (ip f m) = 0) := by
    intro N
    induction N with
    | zero => exact Or.inl (fun j hj => absurd hj (Nat.not_lt_zero _))
    | succ N ih =>
      rcases ih with h | ⟨m, hm, h⟩
      · by_cases q : ip f N < L ∧ fo f L (ip f N) = 0
        · refine Or.inl (fun j hj => ?_)
          by_cases e : j = N
          · rw [e]; exact q
          · exact h j (by omega)
        · exact Or.inr ⟨N, by omega, h, q⟩
      · exact Or.inr ⟨m, by omega, h⟩
  have hle : ∀ N, (∀ j, j < N → ip f j < L ∧ fo f L (ip f j) = 0) → N ≤ ip f N := by
    intro N
    induction N with
    | zero => intro _; exact Nat.zero_le _
    | succ N ih =>
      intro h
      have := ih (fun j hj => h j (by omega))
      show N + 1 ≤ ip f N + (1 + kd (f (ip f N)))
      omega
  rcases key (L + 1) with h | ⟨m, hm, h, hn⟩
  · have h1 := hle L (fun j hj => h j (by omega))
    have h2 := (h L (by omega)).1
    omega
  · refine ⟨m, by omega, h, ?_⟩
    have hl : ip f m ≤ L := by
      cases m with
      | zero => exact Nat.zero_le _
      | succ m => exact fo_l (h m (by omega)).2
    by_cases q : ip f m < L
    · exact Or.inr ⟨q, fun e => hn ⟨q, e⟩⟩
    · exact Or.inl (by omega)
theorem it_1 {S X : Type} {step : S → Option (S ⊕ X)} {s s' : S} (F : Nat) (h : step s = some (.inl s')) : iter step (F + 1) s = iter step F s' := by
  rw [iter, h]
theorem it_x {S X : Type} {step : S → Option (S ⊕ X)} {s : S} {x : X} (F : Nat) (h : step s = some (.inr x)) : iter step (F + 1) s = some x := by
  rw [iter, h]
theorem x8_at {T : Nat × (Nat → Nat)} {χ σ : St} (h : RT T χ σ) {i : Nat} (hi : i < T.1) : f_X8_at χ (nI i) = some (nI (T.2 i)) := by
  obtain ⟨t1, t2, t3, t4⟩ := h
  obtain ⟨u1, u2, u3⟩ := t4 i hi
  unfold f_X8_at
  rw [if_neg (nI_pos (by omega)), t2, if_pos (nI_lt hi (by omega)), gd_n (by omega) (by omega), nI_clamp (by omega), u2]
  exact gd_t ((by decide +kernel : ∀ a, a < 256 → nc (nI a) = true) _ u1)
theorem x8_dg {T : Nat × (Nat → Nat)} {χ σ : St} (h : RT T χ σ) {i : Nat} (hi : i < T.1) : f_X8_digitAt χ (nI i) = some (if dg (T.2 i) = true then nI (T.2 i - 48) else -1) := by
  have u1 := (h.2.2.2 i hi).1
  unfold f_X8_digitAt
  rw [bi_nd (x8_at h hi)]
  exact (by decide +kernel : ∀ a, a < 256 → some (if nI a < (48 : Int32) then (-1 : Int32) else (if (57 : Int32) < nI a then (-1 : Int32) else (nI a - (48 : Int32)))) = some (if dg a = true then nI (a - 48) else -1)) _ u1
theorem x8_kd : ∀ c, c < 256 → f_X8_digitsBehind (nI c) = some (nI (kd c)) := by decide +kernel
section FAULT
variable {T : Nat × (Nat → Nat)} {χ σ : St} {L : Nat}
theorem fs_h (h : RT T χ σ) (hL : L ≤ T.1) {p : Nat} (hp : p < L) : f_X8_faultAsSeason_s18 χ (nI L) (nI 0) (nI 9) (nI p) = if kd (T.2 p) = 0 then some (.inr (.inl (nI p))) else some (.inl (nI (kd (T.2 p)), nI (hx (T.2 p)), nI (p + 1))) := by
  have h80 := h.1
  have u1 := (h.2.2.2 p (by omega)).1
  have k3 := kd_le (T.2 p)
  unfold f_X8_faultAsSeason_s18 f_X8_faultAsSeason_j55_18 f_X8_faultAsSeason_j91_18
  rw [if_neg (nI_ge hp (by omega)), if_pos (show nI 0 = 0 from rfl), bi_nd (x8_at h (by omega)), bi_nd (x8_kd _ u1), bi_nd (x8_at h (by omega)), show (0 : Int32) = nI 0 from rfl, nI_1]
  by_cases q : kd (T.2 p) = 0
  · rw [if_pos q, if_pos (by rw [q])]
  · rw [if_neg q, if_neg (fun e => q ((nI_eq (by omega) (by omega)).mp e))]
    by_cases r : T.2 p = 113
    · rw [hx, if_pos r, if_pos (show nI (T.2 p) = 113 by rw [r]; rfl)]; rfl
    · rw [hx, if_neg r, if_neg (show ¬ nI (T.2 p) = 113 from fun e => r ((nI_eq (b := 113) (by omega) (by omega)).mp e))]; rfl
theorem fs_d (h : RT T χ σ) (hL : L ≤ T.1) {p k m : Nat} (hp : p < L) (hk : k < 4) (hk0 : 0 < k) (hm : m ≤ 9) : f_X8_faultAsSeason_s18 χ (nI L) (nI k) (nI m) (nI p) = if dg (T.2 p) = true ∧ T.2 p ≤ 48 + m then some (.inl (nI (k - 1), nI 9, nI (p + 1))) else some (.inr (.inl (nI p))) := by
  have h80 := h.1
  unfold f_X8_faultAsSeason_s18 f_X8_faultAsSeason_j91_18
  rw [if_neg (nI_ge hp (by omega)), if_neg (show ¬ nI k = 0 from nI_ne0 (by omega) (by omega)), bi_nd (x8_dg h (by omega)), bi_nd (x8_dg h (by omega)), show nI k + (-1 : Int32) = nI (k - 1) from ad_m1 hk0, nI_1]
  by_cases q : dg (T.2 p) = true
  · have hq : 48 ≤ T.2 p ∧ T.2 p ≤ 57 := of_decide_eq_true q
    rw [if_pos q, if_neg (nI_pos (by omega))]
    by_cases r : T.2 p ≤ 48 + m
    · rw [if_pos (nI_le (by omega) (by omega)), if_pos ⟨q, r⟩]; rfl
    · rw [if_neg (nI_ge (by omega) (by omega)), if_neg (fun e => r e.2)]
  · rw [if_neg q, if_pos (by decide), if_neg (fun e => q e.1)]
theorem fs_e {k m : Nat} (hL : L < 100) : f_X8_faultAsSeason_s18 χ (nI L) (nI k) (nI m) (nI L) = some (.inr (.inr (nI k))) := by
  unfold f_X8_faultAsSeason_s18
  rw [if_pos (nI_le (Nat.le_refl _) (by omega))]
theorem kd_1 {f : Nat → Nat} {i : Nat} (h : kd (f i) ≠ 0) : 1 ≤ kd (f i) := by omega
/-- an act that stands -/
theorem fs_i (h : RT T χ σ) (hL : L ≤ T.1) {p : Nat} (hp : p < L) (h0 : fo T.2 L p = 0) (F : Nat) : iter (fun z : Int32 × Int32 × Int32 => f_X8_faultAsSeason_s18 χ (nI L) z.1 z.2.1 z.2.2) (F + (1 + kd (T.2 p))) (nI 0, nI 9, nI p) = iter (fun z : Int32 × Int32 × Int32 => f_X8_faultAsSeason_s18 χ (nI L) z.1 z.2.1 z.2.2) F (nI 0, nI 9, nI (p + (1 + kd (T.2 p)))) := by
  obtain ⟨h1, h2, h3, h4, h5, h6⟩ := fo_0 h0
  have k3 := kd_le (T.2 p)
  have e0 := fs_h h hL hp
  rw [if_neg (by omega)] at e0
  have hd1 : 48 ≤ T.2 (p + 1) ∧ T.2 (p + 1) ≤ 57 := of_decide_eq_true h3
  have e1 := fs_d (m := hx (T.2 p)) (k := kd (T.2 p)) h hL h2 (by omega) h1 (hx_le _)
  rw [if_pos ⟨h3, hx_i hd1.2 h4⟩] at e1
  rw [show F + (1 + kd (T.2 p)) = F + (kd (T.2 p) - 1) + 1 + 1 by omega, it_1 _ e0, it_1 _ e1]
  by_cases c1 : kd (T.2 p) = 1
  · rw [c1]; rfl
  obtain ⟨g1, g2⟩ := h5 (by omega)
  have hd2 : 48 ≤ T.2 (p + 2) ∧ T.2 (p + 2) ≤ 57 := of_decide_eq_true g2
  have e2 := fs_d (m := 9) (k := kd (T.2 p) - 1) h hL g1 (by omega) (by omega) (by omega)
  rw [if_pos ⟨g2, by omega⟩] at e2
  rw [show F + (kd (T.2 p) - 1) = F + (kd (T.2 p) - 2) + 1 by omega, it_1 _ e2]
  by_cases c2 : kd (T.2 p) = 2
  · rw [c2]; rfl
  obtain ⟨g3, g4⟩ := h6 (by omega)
  have hd3 : 48 ≤ T.2 (p + 3) ∧ T.2 (p + 3) ≤ 57 := of_decide_eq_true g4
  have c3 : kd (T.2 p) = 3 := by omega
  have e3 := fs_d (m := 9) (k := kd (T.2 p) - 1 - 1) h hL g3 (by omega) (by omega) (by omega)
  rw [if_pos ⟨g4, by omega⟩] at e3
  rw [show F + (kd (T.2 p) - 2) = F + 1 by omega, it_1 _ e3, c3]
theorem fs_f (h : RT T χ σ) (hL : L ≤ T.1) {p : Nat} (hp : p < L) (h0 : fo T.2 L p ≠ 0) (F : Nat) : ∃ r, iter (fun z : Int32 × Int32 × Int32 => f_X8_faultAsSeason_s18 χ (nI L) z.1 z.2.1 z.2.2) (F + 4) (nI 0, nI 9, nI p) = some r ∧ ((p + (fo T.2 L p - 1) < L ∧ r = .inl (nI (p + (fo T.2 L p - 1)))) ∨ (p + (fo T.2 L p - 1) = L ∧ ∃ k, 0 < k ∧ k < 4 ∧ r = .inr (nI k))) := by
  have h80 := h.1
  have k3 := kd_le (T.2 p)
  have e0 := fs_h h hL hp
  by_cases c0 : kd (T.2 p) = 0
  · rw [if_pos c0] at e0
    have hf : fo T.2 L p = 1 := by unfold fo; rw [if_pos c0]
    exact ⟨_, it_x (F + 3) e0, Or.inl ⟨by omega, by rw [hf]; rfl⟩⟩
  rw [if_neg c0] at e0
  rw [it_1 (F + 3) e0]
  by_cases c1 : p + 1 < L ∧ dg (T.2 (p + 1)) = true ∧ (T.2 p = 113 → T.2 (p + 1) ≤ 51)
  · have hd1 : 48 ≤ T.2 (p + 1) ∧ T.2 (p + 1) ≤ 57 := of_decide_eq_true c1.2.1
    have e1 := fs_d (m := hx (T.2 p)) (k := kd (T.2 p)) h hL c1.1 (by omega) (by omega) (hx_le _)
    rw [if_pos ⟨c1.2.1, hx_i hd1.2 c1.2.2⟩] at e1
    rw [it_1 (F + 2) e1]
    by_cases c2 : 2 ≤ kd (T.2 p) ∧ ¬ (p + 2 < L ∧ dg (T.2 (p + 2)) = true)
    · have hf : fo T.2 L p = 3 := by unfold fo; rw [if_neg c0, if_neg (fun x => x c1), if_pos c2]
      rw [hf]
      by_cases q : p + 2 < L
      · have e2 := fs_d (m := 9) (k := kd (T.2 p) - 1) h hL q (by omega) (by omega) (by omega)
        rw [if_neg (fun x => c2.2 ⟨q, x.1⟩)] at e2
        exact ⟨_, it_x (F + 1) e2, Or.inl ⟨q, rfl⟩⟩
      · have e : p + 1 + 1 = L := by omega
        rw [e]
        exact ⟨_, it_x (F + 1) (fs_e (by omega)), Or.inr ⟨rfl, _, by omega, by omega, rfl⟩⟩
    · by_cases c3 : 3 ≤ kd (T.2 p) ∧ ¬ (p + 3 < L ∧ dg (T.2 (p + 3)) = true)
      · have hf : fo T.2 L p = 4 := by unfold fo; rw [if_neg c0, if_neg (fun x => x c1), if_neg c2, if_pos c3]
        have c4 : p + 2 < L ∧ dg (T.2 (p + 2)) = true := Classical.not_not.mp (fun x => c2 ⟨by omega, x⟩)
        have hd2 : 48 ≤ T.2 (p + 2) ∧ T.2 (p + 2) ≤ 57 := of_decide_eq_true c4.2
        rw [hf]
        have e2 := fs_d (m := 9) (k := kd (T.2 p) - 1) h hL c4.1 (by omega) (by omega) (by omega)
        rw [if_pos ⟨c4.2, by omega⟩] at e2
        rw [it_1 (F + 1) e2]
        by_cases q : p + 3 < L
        · have e3 := fs_d (m := 9) (k := kd (T.2 p) - 1 - 1) h hL q (by omega) (by omega) (by omega)
          rw [if_neg (fun x => c3.2 ⟨q, x.1⟩)] at e3
          exact ⟨_, it_x F e3, Or.inl ⟨q, rfl⟩⟩
        · have e : p + 2 + 1 = L := by omega
          rw [e]
          exact ⟨_, it_x F (fs_e (by omega)), Or.inr ⟨rfl, _, by omega, by omega, rfl⟩⟩
      · exact absurd (by unfold fo; rw [if_neg c0, if_neg (fun x => x c1), if_neg c2, if_neg c3]) h0
  · have hf : fo T.2 L p = 2 := by unfold fo; rw [if_neg c0, if_pos c1]
    rw [hf]
    by_cases q : p + 1 < L
    · have e1 := fs_d (m := hx (T.2 p)) (k := kd (T.2 p)) h hL q (by omega) (by omega) (hx_le _)
      rw [if_neg (fun x => c1 ⟨q, x.1, fun y => by have := x.2; unfold hx at this; rw [if_pos y] at this; exact this⟩)] at e1
      exact ⟨_, it_x (F + 2) e1, Or.inl ⟨q, rfl⟩⟩
    · have e : p + 1 = L := by omega
      rw [e]
      exact ⟨_, it_x (F + 2) (fs_e (by omega)), Or.inr ⟨rfl, _, by omega, by omega, rfl⟩⟩
theorem x8_fs (h : RT T χ σ) {m : Nat} (hg : ∀ j, j < m → ip T.2 j < min T.1 60 ∧ fo T.2 (min T.1 60) (ip T.2 j) = 0) (hm : ip T.2 m = min T.1 60 ∨ (ip T.2 m < min T.1 60 ∧ fo T.2 (min T.1 60) (ip T.2 m) ≠ 0)) : f_X8_faultAsSeason χ = some (if ip T.2 m = min T.1 60 then (if T.1 ≤ 60 then -1 else nI 60) else nI (ip T.2 m + (fo T.2 (min T.1 60) (ip T.2 m) - 1))) := by
  obtain ⟨t1, t2, t3, t4⟩ := id h
  have hL : min T.1 60 ≤ T.1 := Nat.min_le_left _ _
  have hL60 : min T.1 60 ≤ 60 := Nat.min_le_right _ _
  have hLc : (T.1 ≤ 60 ∧ min T.1 60 = T.1) ∨ (60 < T.1 ∧ min T.1 60 = 60) := by omega
  unfold f_X8_faultAsSeason
  rw [t2]
  have hy : (if (60 : Int32) < nI T.1 then (60 : Int32) else nI T.1) = nI (min T.1 60) := by
    rcases hLc with ⟨q, e⟩ | ⟨q, e⟩
    · rw [e, if_neg (show ¬ (60 : Int32) < nI T.1 from fun x => absurd ((nI_ltI (a := 60) (by omega) (by omega)).mp x) (by omega))]
    · rw [e, if_pos (show (60 : Int32) < nI T.1 from nI_lt (a := 60) q (by omega))]; rfl
  rw [hy]
  generalize min T.1 60 = L at *
  have pre : ∀ j, j ≤ m → ip T.2 j ≤ L ∧ ∃ F, F + ip T.2 j = FU ∧ iter (fun z : Int32 × Int32 × Int32 => f_X8_faultAsSeason_s18 χ (nI L) z.1 z.2.1 z.2.2) FU ((0 : Int32), (9 : Int32), (0 : Int32)) = iter (fun z : Int32 × Int32 × Int32 => f_X8_faultAsSeason_s18 χ (nI L) z.1 z.2.1 z.2.2) F (nI 0, nI 9, nI (ip T.2 j)) := by
    intro j
    induction j with
    | zero => intro _; exact ⟨Nat.zero_le _, FU, rfl, rfl⟩
    | succ j ih =>
      intro hj
      obtain ⟨i1, F, i2, i3⟩ := ih (by omega)
      obtain ⟨g1, g2⟩ := hg j (by omega)
      have hl := fo_l g2
      refine ⟨hl, F - (1 + kd (T.2 (ip T.2 j))), ?_, ?_⟩
      · show F - (1 + kd (T.2 (ip T.2 j))) + (ip T.2 j + (1 + kd (T.2 (ip T.2 j)))) = FU
        have : FU = 4096 := rfl
        omega
      · rw [i3]
        have hF : F = F - (1 + kd (T.2 (ip T.2 j))) + (1 + kd (T.2 (ip T.2 j))) := by
          have : FU = 4096 := rfl
          omega
        rw [hF, fs_i h hL g1 g2]
        rw [← hF]
        rfl
  obtain ⟨i1, F, i2, i3⟩ := pre m (Nat.le_refl _)
  have hFU : FU = 4096 := rfl
  rw [i3]
  rcases hm with e | ⟨q, e⟩
  · rw [if_pos e, e, show F = (F - 1) + 1 by omega, it_x (F - 1) (fs_e (χ := χ) (k := 0) (m := 9) (by omega)), ob_s]
    show some _ = _
    by_cases c : T.1 ≤ 60
    · rw [if_pos (show nI T.1 ≤ (60 : Int32) from nI_le (b := 60) c (by omega)), if_pos (show nI 0 = 0 from rfl), if_pos c]
    · rw [if_neg (show ¬ nI T.1 ≤ (60 : Int32) from nI_ge (a := 60) (by omega) (by omega)), if_neg c]; rfl
  · rw [if_neg (by omega), show F = (F - 4) + 4 by omega]
    obtain ⟨r, e1, ⟨c1, rfl⟩ | ⟨c1, k, k0, k4, rfl⟩⟩ := fs_f h hL q e (F - 4)
    · rw [bi_nd e1]; rfl
    · rw [bi_nd e1, c1]
      show some _ = _
      rcases hLc with ⟨c, e2⟩ | ⟨c, e2⟩
      · rw [if_pos (show nI T.1 ≤ (60 : Int32) from nI_le (b := 60) c (by omega)), if_neg (show ¬ nI k = 0 from nI_ne0 (by omega) (by omega)), e2]
      · rw [if_neg (show ¬ nI T.1 ≤ (60 : Int32) from nI_ge (a := 60) (by omega) (by omega)), e2]; rfl
end FAULT
