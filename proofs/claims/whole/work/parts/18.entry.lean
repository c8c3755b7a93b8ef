/-! THE WORLD at the law's entry. -/
def nar : List Cond := flatC (Jvm.Cond.and given_1 narrow_1)
def sown (i : Nat) : String := if i < 3 then "OysterBeds" else "OysterBedsModel"
def sidx (i : Nat) : Nat := ([113, 134, 376, 164, 203, 208, 210, 212, 299] : List Nat).getD i 0
def stm (i : Nat) : Term := .string (sown i) (sidx i)
theorem nar_ex : ∀ i, i < 9 → Cond.exactly (stm i) "java/lang/String" ∈ nar := by decide +kernel
theorem nar_co : ∀ i, i < 9 → Cond.eq (.field (stm i) "java/lang/String" "coder" "B") (.int 0) ∈ nar := by decide +kernel
theorem nar_ar : ∀ i, i < 9 → Cond.arrayOf (.field (stm i) "java/lang/String" "value" "[B") .byte ∈ nar := by decide +kernel
theorem nar_le : ∀ i, i < 9 → Cond.eq (.length (.field (stm i) "java/lang/String" "value" "[B")) (.int (Int32.ofNat (slens.getD i 0))) ∈ nar := by decide +kernel
theorem nar_el : ∀ i, i < 9 → ∀ j, j < slens.getD i 0 → Cond.eq (.elem (.field (stm i) "java/lang/String" "value" "[B") (.int (Int32.ofNat j))) (.int ((sbyt.getD i []).getD j 0)) ∈ nar := by decide +kernel
theorem nar_ne : ∀ i, i < 9 → ∀ j, j < 9 → i ≠ j → (Cond.not (Cond.eq (stm i) (stm j)) ∈ nar ∨ Cond.not (Cond.eq (stm j) (stm i)) ∈ nar) := by decide +kernel
theorem nar_T0 : ∀ j, j < 7 → Cond.eq (.elem (.static "OysterBeds$Law" "NO_RULE" "[C") (.int (Int32.ofNat j))) (.int (([118, 42, 57, 45, 102, 43, 119] : List Int32).getD j 0)) ∈ nar := by decide +kernel
theorem nar_T1 : ∀ j, j < 4 → Cond.eq (.elem (.static "OysterBeds$Views" "WITH_YES" "[I") (.int (Int32.ofNat j))) (.int (([43690, 52428, 61680, 65280] : List Int32).getD j 0)) ∈ nar := by decide +kernel
theorem nar_T2 : ∀ j, j < 5 → Cond.eq (.elem (.static "OysterBeds$Hearsay" "GREATEST" "[I") (.int (Int32.ofNat j))) (.int (([2, 9, 3, 1, 9] : List Int32).getD j 0)) ∈ nar := by decide +kernel
theorem nar_A : Cond.arrayOf (.static "OysterBeds$Law" "NO_RULE" "[C") .char ∈ nar ∧ Cond.arrayOf (.static "OysterBeds$Views" "WITH_YES" "[I") .int ∈ nar ∧ Cond.arrayOf (.static "OysterBeds$Hearsay" "GREATEST" "[I") .int ∈ nar := by decide +kernel
theorem nar_L : Cond.eq (.length (.static "OysterBeds$Law" "NO_RULE" "[C")) (.int (Int32.ofNat 7)) ∈ nar ∧ Cond.eq (.length (.static "OysterBeds$Views" "WITH_YES" "[I")) (.int (Int32.ofNat 4)) ∈ nar ∧ Cond.eq (.length (.static "OysterBeds$Hearsay" "GREATEST" "[I")) (.int (Int32.ofNat 5)) ∈ nar := by decide +kernel
theorem nar_R : Cond.isRef (.static "java/lang/Throwable" "UNASSIGNED_STACK" "[Ljava/lang/StackTraceElement;") ∈ nar ∧ Cond.isRef (.static "java/lang/Throwable" "SUPPRESSED_SENTINEL" "Ljava/util/List;") ∈ nar ∧ Cond.isRef (.static "jdk/internal/util/Preconditions" "SIOOBE_FORMATTER" "Ljava/util/function/BiFunction;") ∈ nar ∧ Cond.eq (.static "java/lang/String" "COMPACT_STRINGS" "Z") (.int 1) ∈ nar := by decide +kernel
theorem k_arr {s : State} {args : Array Value} {ty : FieldType} (h : (Cond.arrayClass ty).before args s = true) (hno : ∀ C, ty ≠ .object C) : ∃ cA, ArrOfT s cA ty ∧ va_RA s cA ty := by
  obtain ⟨cA, kA, comp, h1, h2, h3⟩ := Cond.arrayClass_spec (args := args) (first := s) (o := none) (idx := []) h
  refine ⟨cA, fun n z => ⟨fun k h => (by cases h), kA, h2, comp, h3⟩, ?_⟩
  cases ty <;> first | exact absurd rfl (hno _) | exact h1
theorem k_arrO {s : State} {args : Array Value} {C : String} (h : (Cond.arrayOver (.object C)).before args s = true) : ∃ cA, ArrOfT s cA (.object C) ∧ va_RA s cA (.object C) := by
  obtain ⟨comp, cA, kA, h1, -, h2, h3, h4⟩ := Cond.arrayOver_spec (args := args) (first := s) (o := none) (idx := []) h
  exact ⟨cA, fun n z => ⟨fun k h => (by cases h), kA, h2, comp, h3⟩, kA, comp, h2, h3, h1, h4⟩
theorem law_KK {args : Array Value} {s : State} (hts : ∀ w ∈ lw_tbl, w.before args s = true) (hgv : (Jvm.Cond.and given_1 narrow_1).before args s = true) :
    ∃ (D : va_G) (yy : Nat → ClassId) (aK aV : Nat → Nat), ∀ (ad : Nat → Nat) (pl : List Nat), KK (D, yy, ad, s.heap, aK, aV, fun q => s.heap.size ≤ q, pl) s := by
  have hG : ∀ w ∈ WG, w.before args s = true := fun w hw => hts w (wg_tbl hw)
  have hn : ∀ c ∈ nar, c.before args s = true := flat_of_before _ hgv
  have hA : ∀ a : Nat, a < s.heap.size → ¬ (fun q => s.heap.size ≤ q) a := fun a h1 h2 => absurd h1 (Nat.not_lt.mpr h2)
  obtain ⟨c0, iS0, hKn0⟩ := u_known (C := RX0) (T := TX0) (N := 8) (n := 8) hG inX0 (hG _ wd_65)
  obtain ⟨c1, iS1, hKn1⟩ := u_known (C := RX4) (T := TX4) (N := 3) (n := 3) hG inX4 (hG _ wd_167)
  obtain ⟨c2, iS2, hKn2⟩ := u_known (C := RX5) (T := TX5) (N := 9) (n := 9) hG inX5 (hG _ wd_184)
  obtain ⟨c3, iS3, hKn3⟩ := u_known (C := RX6) (T := TX6) (N := 5) (n := 5) hG inX6 (hG _ wd_120)
  obtain ⟨c4, iS4, hKn4⟩ := u_known (C := RX7) (T := TX7) (N := 4) (n := 4) hG inX7 (hG _ wd_147)
  obtain ⟨c5, iS5, hKn5⟩ := u_known (C := RX8) (T := TX8) (N := 2) (n := 2) hG inX8 (hG _ wd_33)
  obtain ⟨c6, iS6, hKn6⟩ := u_known (C := RX9) (T := TX9) (N := 2) (n := 2) hG inX9 (hG _ wd_49)
  obtain ⟨c7, iS7, hKn7⟩ := u_known (C := RX11) (T := TX11) (N := 9) (n := 9) hG inX11 (hG _ wd_25)
  obtain ⟨c8, iS8, hKn8⟩ := u_known (C := RX12) (T := TX12) (N := 41) (n := 41) hG inX12 (hG _ wd_951)
  obtain ⟨y0, hy0⟩ := k_arr (ty := .char) (hG _ wd_47) (fun C h => by cases h)
  obtain ⟨y1, hy1⟩ := k_arr (ty := .int) (hG _ wd_118) (fun C h => by cases h)
  obtain ⟨y2, hy2⟩ := k_arr (ty := .long) (hG _ wd_63) (fun C h => by cases h)
  obtain ⟨y3, hy3⟩ := k_arr (ty := .boolean) (hG _ wd_145) (fun C h => by cases h)
  obtain ⟨y4, hy4⟩ := k_arrO (C := "OysterBeds$Bed") (hts _ (List.mem_append_right _ (List.mem_of_getElem? (i := 126) (by decide +kernel))))
  obtain ⟨aK, aV, hS, hev⟩ := vk_Sof (args := args) (s := s) (N := 9) (tm := stm) (len := slens) (byt := sbyt) (A := fun q => s.heap.size ≤ q) (by decide +kernel) (fun i hi => hn _ (nar_ex i hi)) (fun i hi => hn _ (nar_co i hi)) (fun i hi => hn _ (nar_ar i hi)) (fun i hi => hn _ (nar_le i hi)) (fun i hi j hj => hn _ (nar_el i hi j hj)) (fun i j hi hj hij => (nar_ne i hi j hj hij).elim (fun h => Or.inl (hn _ h)) (fun h => Or.inr (hn _ h))) hA
  obtain ⟨t0, e0, hT0⟩ := va_Tof (args := args) (s := s) (tm := .static "OysterBeds$Law" "NO_RULE" "[C") (ty := .char) (N := 7) (f := fun j => .int (([118, 42, 57, 45, 102, 43, 119] : List Int32).getD j 0)) (A := fun q => s.heap.size ≤ q) (by decide) (hn _ nar_A.1) (va_eqt (hn _ nar_L.1)) (fun j hj => va_eqt (hn _ (nar_T0 j hj))) hA
  obtain ⟨t1, e1, hT1⟩ := va_Tof (args := args) (s := s) (tm := .static "OysterBeds$Views" "WITH_YES" "[I") (ty := .int) (N := 4) (f := fun j => .int (([43690, 52428, 61680, 65280] : List Int32).getD j 0)) (A := fun q => s.heap.size ≤ q) (by decide) (hn _ nar_A.2.1) (va_eqt (hn _ nar_L.2.1)) (fun j hj => va_eqt (hn _ (nar_T1 j hj))) hA
  obtain ⟨t2, e2, hT2⟩ := va_Tof (args := args) (s := s) (tm := .static "OysterBeds$Hearsay" "GREATEST" "[I") (ty := .int) (N := 5) (f := fun j => .int (([2, 9, 3, 1, 9] : List Int32).getD j 0)) (A := fun q => s.heap.size ≤ q) (by decide) (hn _ nar_A.2.2) (va_eqt (hn _ nar_L.2.2)) (fun j hj => va_eqt (hn _ (nar_T2 j hj))) hA
  refine ⟨(fun k => ([c0, c1, c2, c3, c4, c5, c6, c7, c8] : List ClassId).getD k c0, fun k => ([iS0, iS1, iS2, iS3, iS4, iS5, iS6, iS7, iS8] : List (Nat → Nat)).getD k iS0), fun k => ([y0, y1, y2, y3, y4] : List ClassId).getD k y0, aK, aV, fun ad pl => ⟨⟨?_, ?_⟩, fun w hw => va_tabs (nwl_on hw) rfl (hts w (nwl_tbl w hw)), ?_⟩⟩
  · intro k q hq
    match k, hq with
    | 0, hq => cases hq; exact hKn0
    | 1, hq => cases hq; exact hKn1
    | 2, hq => cases hq; exact hKn2
    | 3, hq => cases hq; exact hKn3
    | 4, hq => cases hq; exact hKn4
    | 5, hq => cases hq; exact hKn5
    | 6, hq => cases hq; exact hKn6
    | 7, hq => cases hq; exact hKn7
    | 8, hq => cases hq; exact hKn8
    | k + 9, hq => simp [vwCl] at hq
  · intro k q hq
    match k, hq with
    | 0, hq => cases hq; exact hy0
    | 1, hq => cases hq; exact hy1
    | 2, hq => cases hq; exact hy2
    | 3, hq => cases hq; exact hy3
    | 4, hq => cases hq; exact hy4
    | k + 5, hq => simp [gtys] at hq
  · exact ⟨⟨t0, va_Zof (hts _ (List.mem_append_right _ (List.mem_of_getElem? (i := 198) (by decide +kernel)))) (hG _ wd_8) e0 hA, hT0⟩, ⟨t1, va_Zof (hts _ (List.mem_append_right _ (List.mem_of_getElem? (i := 699) (by decide +kernel)))) (hG _ wd_20) e1 hA, hT1⟩, ⟨t2, va_Zof (hts _ (List.mem_append_right _ (List.mem_of_getElem? (i := 728) (by decide +kernel)))) (hG _ wd_7) e2 hA, hT2⟩, va_Zof (hts _ (List.mem_append_right _ (List.mem_of_getElem? (i := 1122) (by decide +kernel)))) (hG _ wd_11) (va_eqt (hn _ nar_R.2.2.2)) hA, vx_Zqof (hts _ (List.mem_append_right _ (List.mem_of_getElem? (i := 902) (by decide +kernel)))) (hG _ wd_15) (hn _ nar_R.1) hA, vx_Zqof (hts _ (List.mem_append_right _ (List.mem_of_getElem? (i := 904) (by decide +kernel)))) (hG _ wd_15) (hn _ nar_R.2.1) hA, va_Zqof (hts _ (List.mem_append_right _ (List.mem_of_getElem? (i := 1138) (by decide +kernel)))) (hG _ wd_13) (hn _ nar_R.2.2.1) hA, hS, vk_R.of (A := args) (hts _ (List.mem_append_right _ (List.mem_of_getElem? (i := 914) (by decide +kernel)))) (hev 0 (by decide)), vk_R.of (A := args) (hts _ (List.mem_append_right _ (List.mem_of_getElem? (i := 941) (by decide +kernel)))) (hev 1 (by decide)), vk_R.of (A := args) (hts _ (List.mem_append_right _ (List.mem_of_getElem? (i := 949) (by decide +kernel)))) (hev 2 (by decide)), vk_R.of (A := args) (hts _ (List.mem_append_right _ (List.mem_of_getElem? (i := 1108) (by decide +kernel)))) (hev 3 (by decide)), vk_R.of (A := args) (hts _ (List.mem_append_right _ (List.mem_of_getElem? (i := 1206) (by decide +kernel)))) (hev 4 (by decide)), vk_R.of (A := args) (hts _ (List.mem_append_right _ (List.mem_of_getElem? (i := 1207) (by decide +kernel)))) (hev 5 (by decide)), vk_R.of (A := args) (hts _ (List.mem_append_right _ (List.mem_of_getElem? (i := 1208) (by decide +kernel)))) (hev 6 (by decide)), vk_R.of (A := args) (hts _ (List.mem_append_right _ (List.mem_of_getElem? (i := 1209) (by decide +kernel)))) (hev 7 (by decide)), vk_R.of (A := args) (hts _ (List.mem_append_right _ (List.mem_of_getElem? (i := 1338) (by decide +kernel)))) (hev 8 (by decide))⟩
