/-! NoSuchElementException's constructor links at 13: the pasted rows of an exception as an object, turned to it. -/
section VX13
abbrev nsTh : ByteArray := prog_28_method_4_code
def nsAtoms (own : String) (ic : Nat) (X Y : String) (r : List String) : List Cond :=
  Bundle.throwableAtoms ++ Bundle.throwableSAtoms ++ (Bundle.passSAtoms X Y 13 nsTh ++ Bundle.chainSAtoms Y r) ++
  [.methodLink own ic (Bundle.initS X), .instantiable X 6, .castable X X, .selects X Bundle.tFill0 Bundle.tFill0, .selects X Bundle.tFill Bundle.tFill,
   .lays X Bundle.tN "cause" "Ljava/lang/Throwable;", .lays X Bundle.tN "stackTrace" Bundle.steD, .lays X Bundle.tN "suppressedExceptions" Bundle.listD, .lays X Bundle.tN "detailMessage" "Ljava/lang/String;",
   .isRef (.static Bundle.tN "UNASSIGNED_STACK" Bundle.steD), .isRef (.static Bundle.tN "SUPPRESSED_SENTINEL" Bundle.listD),
   .fieldLink Bundle.tN 198 Bundle.tN "backtrace" "Ljava/lang/Object;", .lays Bundle.tN Bundle.tN "backtrace" "Ljava/lang/Object;", .lays X Bundle.tN "backtrace" "Ljava/lang/Object;"]
def nsAt (own : String) (ic : Nat) (X Y : String) (r : List String) : List Cond := (nsAtoms own ic X Y r).filter vx_no
theorem nsTh_0 : decode nsTh 0 = .ok (.aload_n 0, 1) := by decide +kernel
theorem nsTh_1 : decode nsTh 1 = .ok (.aload_n 1, 1) := by decide +kernel
theorem nsTh_2 : decode nsTh 2 = .ok (.invokespecial 13, 3) := by decide +kernel
theorem nsTh_5 : decode nsTh 5 = .ok (.return_, 1) := by decide +kernel
theorem ns_chainS {args : Array Value} {s : State} {pl : Platform} (hpl : pl.magicAccessors = ({} : Platform).magicAccessors) {top : MethodId} (htop : s.methodNamed? (Bundle.initS Bundle.tN) = some top) (Y : String) (r : List String) (X : String) (hX : Bundle.fit X = true) (hn : ∀ n ∈ Y :: r, Bundle.fit n = true)
    (h : ∀ c ∈ Bundle.passSAtoms X Y 13 nsTh ++ Bundle.chainSAtoms Y r, c.before args s = true) :
      ∃ (P1 : PassC) (Ps : List PassC), Ps.length = (Y :: r).length ∧ P1.LinksS pl s ∧ (∀ P, P ∈ Ps → P.LinksS pl s) ∧ s.methodNamed? (Bundle.initS X) = some P1.m ∧
        P1.sup = firstOf top (Ps.map (·.toPassT)) ∧ PassesOn top (Ps.map (·.toPassT)) := by
  obtain ⟨P, L, hm, hs⟩ := PassC.ofS_atoms (args := args) (s := s) hpl (X := X) (Y := Y) (Bundle.fit_spec hX).1 (Bundle.fit_spec (hn Y List.mem_cons_self)).2 nsTh_0 nsTh_1 nsTh_2 nsTh_5 (fun c hc => h c (List.mem_append.mpr (Or.inl hc)))
  obtain ⟨P', Ps, hlen, L', hL, hm', hsup, hpass⟩ := Bundle.chainS hpl htop r Y (hn Y List.mem_cons_self) (fun n hn' => hn n (List.mem_cons_of_mem _ hn')) (fun c hc => h c (List.mem_append.mpr (Or.inr hc)))
  refine ⟨P, P' :: Ps, by simp [hlen], L, ?_, hm, Option.some.inj (hs.symm.trans hm'), hsup, hpass⟩
  intro Q hQ
  rcases List.mem_cons.mp hQ with rfl | hQ
  · exact L'
  · exact hL Q hQ
variable {p : Program} {l : Launch} {e : Env} {R : Room} {s : State} {m₀ : MethodId} {args : Array Value} {below : List Frame} {meth : Method} {c : Code} {W : State} {locs : List Loc} {cells slots : Nat}
set_option maxHeartbeats 1000000 in
theorem ns_ctorMade (X : Stand p l e R s m₀ args below meth c W locs cells slots) (hexec : p.tables.exec = Jvm.exec) (htr : e.platform.stackTraces = false) {own cls : String} {Y9 : String} {r9 : List String} {ic : Nat}
    (hown : s.vm.findClass own = some m₀.cls) (hcls : Bundle.fit cls = true) (hnames : ∀ n ∈ Y9 :: r9, Bundle.fit n = true)
    (h : ∀ a ∈ nsAtoms own ic cls Y9 r9, a.before args s = true)
    (hlocs : ∀ x ∈ locs, ∀ cell, s.heap[x.base]? = some cell → cell.vm.isStatics = false)
    {a : Addr} {cX : ClassId} {kX : Class} (hfoundX : s.vm.findClass cls = some cX) (hkX : s.vm.classes[cX]? = some kX) (hcell : W.heap[a]? = some (freshCell cX kX)) (hnew : s.heap.size ≤ a)
    {msg : Value} (hmsg : msg.isRef = true)
    {g : JFrame} (hg : g.method = m₀) (hsize : g.locals.size = c.maxLocals) {rest : List Value} (hstack : g.stack = msg :: .ref a :: .ref a :: rest)
    (hd6 : decode c.code g.pc = .ok (.invokespecial ic, 3))
    (hRframes : (Y9 :: r9).length + 3 < R.frames) (hRlocals : 2 * g.monitorRoom + ((Value.ref a :: rest).map fun v => v.category).sum + (13 * ((Y9 :: r9).length + 1) + 42) ≤ R.locals) :
    ∃ (V : State) (ce : Cell) (L : List Loc), Stand p l e R s m₀ args below meth c (V.setCell a ce) (locs ++ L) cells slots ∧ (∀ y ∈ L, y.base = a) ∧ a < V.heap.size ∧ ce.cls = cX ∧ ce.vm = .none ∧
      ∀ target, Steps p.tables e below ((V.setCell a ce).setTop { g with stack := .ref a :: rest, pc := g.pc + 3 }) target → Steps p.tables e below (W.setTop g) target := by
  have howns : e.platform.frameOwnsMonitors = true := by rw [X.admits.platform]
  have hfin : e.platform.finalization = false := by rw [X.admits.platform]
  have hpl : e.platform.magicAccessors = ({} : Platform).magicAccessors := by rw [X.admits.platform]
  have a' : ∀ x, x ∈ nsAtoms own ic cls Y9 r9 → x.holds args s none s [] = true := fun x hx => h x hx
  obtain ⟨T, Z0, L, -, Y⟩ := ThrowableC.of_atoms (args := args) howns hfin hpl (fun x hx => h x (by unfold nsAtoms; exact List.mem_append_left _ (List.mem_append_left _ (List.mem_append_left _ hx))))
  obtain ⟨Z, M, LZ, LM, hnZ⟩ := Init0T.ofS_atoms (args := args) hpl L Y (fun x hx => h x (by unfold nsAtoms; exact List.mem_append_left _ (List.mem_append_left _ (List.mem_append_right _ hx))))
  obtain ⟨P1, Ps, hlen, L1, hL, hP1m, hlink1, hlink⟩ := ns_chainS (args := args) hpl hnZ Y9 r9 cls hcls hnames (fun x hx => h x (by unfold nsAtoms; exact List.mem_append_left _ (List.mem_append_right _ hx)))
  have hfound : s.vm.findClass cls = some P1.m.cls := findClass_of_methodNamed hP1m
  cases Option.some.inj (hfoundX.symm.trans hfound)
  obtain ⟨c1, kX', hc1, hk, hord, -, -, hn6⟩ := Cond.instantiable_spec (a' (.instantiable cls 6) (by simp [nsAtoms]))
  cases Option.some.inj (hc1.symm.trans hfound)
  cases Option.some.inj (hkX.symm.trans hk)
  have hsel0 : selectMethod e.platform s.vm P1.m.cls T.fill0 = .method T.fill0 := by
    obtain ⟨c2, r2, m2, q1, q2, q3, q4, -⟩ := Cond.selects_spec (a' (.selects cls Bundle.tFill0 Bundle.tFill0) (by simp [nsAtoms]))
    cases Option.some.inj (q1.symm.trans hfound)
    cases Option.some.inj (q2.symm.trans (State.methodFound?_of_named Y.fill0 (by decide)))
    cases Option.some.inj (q3.symm.trans Y.fill0)
    rw [Launch.admits_selectMethod X.admits]; exact q4
  have hselF : selectMethod e.platform s.vm P1.m.cls T.fill = .method T.fill := by
    obtain ⟨c2, r2, m2, q1, q2, q3, q4, -⟩ := Cond.selects_spec (a' (.selects cls Bundle.tFill Bundle.tFill) (by simp [nsAtoms]))
    cases Option.some.inj (q1.symm.trans hfound)
    cases Option.some.inj (q2.symm.trans (State.methodFound?_of_named Y.fill (by decide)))
    cases Option.some.inj (q3.symm.trans Y.fill)
    rw [Launch.admits_selectMethod X.admits]; exact q4
  obtain ⟨cellS0, hcS0, hiss⟩ := Y.statics
  obtain ⟨u0, hu0⟩ := Cond.staticRefV Y.unassigned L.unassignedStatic L.statics hcS0 hiss (a' (.isRef (.static Bundle.tN "UNASSIGNED_STACK" Bundle.steD)) (by simp [nsAtoms]))
  obtain ⟨sen, hsen⟩ := Cond.staticRefV Y.sentinel L.sentinelStatic L.statics hcS0 hiss (a' (.isRef (.static Bundle.tN "SUPPRESSED_SENTINEL" Bundle.listD)) (by simp [nsAtoms]))
  obtain ⟨ci198, i198, fB, hk198, hg198, ha198, hsB, -, hnB, htB, hffB⟩ := Cond.ownField (t := .object "java/lang/Object") Y.found L.cls (by decide +kernel) (a' (.fieldLink Bundle.tN 198 Bundle.tN "backtrace" "Ljava/lang/Object;") (by simp [nsAtoms])) (a' (.lays Bundle.tN Bundle.tN "backtrace" "Ljava/lang/Object;") (by simp [nsAtoms])) e.platform hpl
  obtain ⟨cellS, hcS', heS, -, hkeep⟩ := X.same.2.2.2.2.2 T.aS cellS0 hcS0
  have hcellS : W.heap[T.aS]? = some cellS := hcS'
  have hout' : ∀ i, (⟨T.aS, i⟩ : Loc) ∉ locs := fun i hmem => by
    have := hlocs _ hmem cellS0 hcS0
    rw [hiss] at this; cases this
  have hknownS : cellS.vm ≠ .unknown := by
    rw [heS]; intro hu
    rw [show cellS0.vm = .unknown from hu] at hiss
    cases hiss
  have hneS : T.aS ≠ a := Nat.ne_of_lt (Nat.lt_of_lt_of_le (Array.getElem?_eq_some_iff.mp hcS0).1 hnew)
  obtain ⟨iM, hffM⟩ := Y.msg
  obtain ⟨tyC, dC, hdC, hdnC⟩ := Cond.laysAt hfound hk Y.cause (a' (.lays cls Bundle.tN "cause" "Ljava/lang/Throwable;") (by simp [nsAtoms]))
  obtain ⟨tyS, dS, hdS, hdnS⟩ := Cond.laysAt hfound hk Y.stack (a' (.lays cls Bundle.tN "stackTrace" Bundle.steD) (by simp [nsAtoms]))
  obtain ⟨tyP, dP, hdP, hdnP⟩ := Cond.laysAt hfound hk Y.supp (a' (.lays cls Bundle.tN "suppressedExceptions" Bundle.listD) (by simp [nsAtoms]))
  obtain ⟨tyM, dM, hdM, hdnM⟩ := Cond.laysAt hfound hk hffM (a' (.lays cls Bundle.tN "detailMessage" "Ljava/lang/String;") (by simp [nsAtoms]))
  obtain ⟨tyB, dB, hdB, hdnB⟩ := Cond.laysAt hfound hk hffB (a' (.lays cls Bundle.tN "backtrace" "Ljava/lang/Object;") (by simp [nsAtoms]))
  have bC := Cond.laysApart hdB hdC hdnB hdnC (by rw [hnB, Y.causeName]; decide)
  have bS := Cond.laysApart hdB hdS hdnB hdnS (by rw [hnB, Y.stackName]; decide)
  have bP := Cond.laysApart hdB hdP hdnB hdnP (by rw [hnB, Y.suppName]; decide)
  have hskip : SkipFacts T e.platform s (fun u => u) u0 ((preparedCellV T.toThrowableT (freshCell P1.m.cls kX) a u0 sen).withEntry W.cur) :=
    ⟨{ ci198 := ci198, i198 := i198, fBack := fB }, ⟨hk198, hg198, ha198, hsB⟩, by
      have := fresh_default (c := P1.m.cls) tyB
      rw [htB] at this
      simpa [preparedCellV, Cell.setSlot, Cell.withEntry, Array.getElem?_setIfInBounds, bC, bS, bP, bC.symm, bS.symm, bP.symm, defaultValue] using this, fun _ _ => rfl⟩
  obtain ⟨tm, methC, cdC, kC, vm₁, hnC, -, -, -, -, -, -, -, hW₁, st1⟩ := Steps.initColdS (tb := p.tables) (e := e) (below := below) (s := s) (U := W) X.here hexec X.warmed hpl hown (t := Bundle.initS cls) rfl rfl (Bundle.fit_spec hcls).2
    (a' (.methodLink own ic (Bundle.initS cls)) (by simp [nsAtoms])) (h (.instanceMethod (Bundle.initS cls)) (by simp [nsAtoms, Bundle.passSAtoms])) (bytes := nsTh) (maxL := 2) (h (.code (Bundle.initS cls) nsTh 2 none) (by simp [nsAtoms, Bundle.passSAtoms]))
    (f := g) hg (a := a) (msg := msg) (rest := .ref a :: rest) hstack hd6
  cases Option.some.inj (hnC.symm.trans hP1m)
  have X₁ := X.noted hW₁
  obtain ⟨vm₂, X₂, st2⟩ := X₁.ctorMessageOffV hexec (g := { g with stack := .ref a :: rest }) hg hsize T L Z LZ M LM (P1 :: Ps)
    (fun P hP => by rcases List.mem_cons.mp hP with rfl | hP; exact L1; exact hL P hP) ⟨hlink1, hlink⟩ (u0 := u0) (sen := sen) (self := a) hmsg (cell := freshCell P1.m.cls kX) (cellS := cellS)
    hcell (fun _ => by simp) (by simp) rfl rfl hsel0 hselF hcellS hneS hknownS (by rw [hkeep _ (hout' _)]; exact hu0) (by rw [hkeep _ (hout' _)]; exact hsen)
    (Takes.of_laid hk hord tyC (by rw [Y.causeType]; rfl)) (Takes.of_laid hk hord tyS (by rw [Y.stackType]; exact fits_refV_array _ u0)) (Takes.of_laid hk hord tyP (by rw [Y.suppType]; exact fits_refV_object _ sen))
    (Takes.of_laid hk hord tyM (by rw [Y.msgType]; exact fits_refV_object _ ⟨msg, hmsg⟩)) Y.objLocals hskip htr [] hd6
    (by simp only [List.length_cons, hlen]; omega) (by simp only [List.length_cons, hlen]; exact hRlocals)
  have hlt : a < ((W.setVm vm₁).setVm vm₂).heap.size := (Array.getElem?_eq_some_iff.mp hcell).1
  refine ⟨(W.setVm vm₁).setVm vm₂, _, _, X₂, fun y hy => ?_, hlt, rfl, rfl, fun target hwalk => st1 _ (fun acts => ?_)⟩
  · simp only [List.mem_cons, List.not_mem_nil, or_false] at hy
    rcases hy with rfl | rfl | rfl | rfl | rfl <;> rfl
  · rw [doInvoke_state]
    exact st2 _ hwalk
end VX13
section VX14
variable {p : Program} {l : Launch} {e : Env} {R : Room} {s : State} {m : MethodId} {args : Array Value} {below : List Frame} {meth : Method} {c : Code} {H : Heap} {locs : List Loc} {cells slots : Nat} {Q : State → Prop}
variable {ls : Array Slot} {rest : List Value}
theorem ns_back9 {T S : State} {R' : Room} {k n : Nat} (X : Stand p l e R s m args below meth c T locs cells slots) (Y : Stand p l e R' ((T.setVm s.vm).setFrames (.invoking m args :: below)) m args below meth c T [] 0 0) (Z : Stand p l e R' ((T.setVm s.vm).setFrames (.invoking m args :: below)) m args below meth c S [] k n) :
    Stand p l e R s m args below meth c S locs (cells + k) (slots + n) := by
  have hW0 : s.WarmedH ((T.setVm s.vm).setFrames (.invoking m args :: below)).vm := State.WarmedH.refl s
  refine { admits := X.admits, cas := X.cas, clock := X.clock, frames := X.frames, room := X.room, hears := X.hears, method := X.method, code := X.code, here := Z.here, tail := Z.tail, warmed := State.WarmedH.trans hW0 Z.warmed, limits := Z.limits.trans (Y.limits.symm.trans X.limits), bytes := Z.bytes.trans (Y.bytes.symm.trans X.bytes), same := ?_ }
  obtain ⟨e1, e2⟩ := Z.same
  rw [State.setFrames_setFrames] at e1
  have h2 : (T.setVm s.vm).sameButNew (S.setVm s.vm) [] k n := ⟨e1, e2⟩
  have h3 := X.same.trans h2
  rw [List.append_nil] at h3
  exact h3
theorem ns_athrow {cc : ByteArray} {pc : Nat} (hexec : p.tables.exec = Jvm.exec) (hb : c.code = cc) {q : Addr} (hdg : decode cc pc = .ok (.athrow, 1)) (k : vx_W p l e R s m args below meth c H locs cells slots Q (F0 m pc ls rest) q) : W p l e R s m args below meth c H locs cells slots Q (F0 m pc ls (.ref q :: rest)) := by
  intro T hT X
  obtain ⟨t, st, hq⟩ := k T hT X
  refine ⟨t, ?_, hq⟩
  have hdg' : decode c.code pc = .ok (.athrow, 1) := by rw [hb]; exact hdg
  jvm_step X.here [X.here.top, hexec, hdg', athrow.wp_sem]
  exact st
theorem ns_make {cc : ByteArray} {pc : Nat} (hexec : p.tables.exec = Jvm.exec) (hb : c.code = cc) (hl : l.stackTraces = false) {own cls text : String} {Y9 : String} {r9 : List String} {ik is ic sa : Nat} {A : Nat → Prop}
    (hown : s.vm.findClass own = some m.cls) (hcls : Bundle.fit cls = true) (hnames : ∀ n ∈ Y9 :: r9, Bundle.fit n = true)
    (hk : (Cond.classLink own ik cls).before args s = true) (hini : (Cond.initialized cls).before args s = true) (hstr : vk_R own is text sa s) (hat : ∀ w ∈ nsAt own ic cls Y9 r9, w.before args s = true)
    (hgood : ∀ w ∈ Cond.classLink own ik cls :: Cond.initialized cls :: nsAt own ic cls Y9 r9, vx_ot w = true)
    (hU : vx_Zq Bundle.tN "UNASSIGNED_STACK" Bundle.steD A s s.heap) (hN : vx_Zq Bundle.tN "SUPPRESSED_SENTINEL" Bundle.listD A s s.heap) (hS : va_S A s.heap H locs) (hsize : ls.size = c.maxLocals)
    (d0 : decode cc pc = .ok (.new ik, 3)) (d3 : decode cc (pc + 3) = .ok (.dup, 1)) (d4 : decode cc (pc + 4) = .ok (.ldc is, 2)) (d6 : decode cc (pc + 6) = .ok (.invokespecial ic, 3))
    (hRframes : (Y9 :: r9).length + 3 < R.frames) (hRlocals : (rest.map fun v => v.category).sum + (13 * ((Y9 :: r9).length + 1) + 43) ≤ R.locals) (hRcells : cells + 1 ≤ R.cells) (hRslots : slots + 6 ≤ R.slots)
    (kk : ∀ (q : Nat) (ce : Cell) (H1 : Heap), H1[q]? = some ce → ce.vm = .none → s.vm.findClass cls = some ce.cls → H.size ≤ H1.size → (∀ x : Nat, x < H.size → H1[x]? = H[x]?) → W p l e R s m args below meth c H1 locs (cells + 1) (slots + 6) Q (F0 m (pc + 9) ls (.ref q :: rest))) :
    W p l e R s m args below meth c H locs cells slots Q (F0 m pc ls rest) := by
  intro T hT X
  subst hT
  have htr : e.platform.stackTraces = false := (show e.platform.stackTraces = l.stackTraces by rw [X.admits.platform]).trans hl
  have Y := vx_rebase X (R' := { frames := R.frames, locals := R.locals, cells := 1, slots := 6 }) (Nat.le_refl _) (Nat.le_refl _) hRcells hRslots
  obtain ⟨s', hA'⟩ : ∃ z, z = (T.setVm s.vm).setFrames (.invoking m args :: below) := ⟨_, rfl⟩
  rw [← hA'] at Y
  have hvm : s'.vm = s.vm := by rw [hA']; rfl
  have hhp : s'.heap = T.heap := by rw [hA']; rfl
  have hW0 : s.WarmedH s'.vm := by rw [hvm]; exact State.WarmedH.refl s
  have hat' : ∀ w ∈ nsAt own ic cls Y9 r9, w.before args s' = true := fun w hw => vx_ot_at hW0 hvm.symm (hgood w (List.mem_cons_of_mem _ (List.mem_cons_of_mem _ hw))) (hat w hw)
  have hk' : (Cond.classLink own ik cls).before args s' = true := vx_ot_at hW0 hvm.symm (hgood _ List.mem_cons_self) hk
  have hini' : (Cond.initialized cls).before args s' = true := vx_ot_at hW0 hvm.symm (hgood _ (List.mem_cons_of_mem _ List.mem_cons_self)) hini
  have hU' : vx_Zq Bundle.tN "UNASSIGNED_STACK" Bundle.steD A s' s'.heap := by rw [hhp]; exact vx_Zq.moved hW0.alike (hU.kept hS.2.1)
  have hN' : vx_Zq Bundle.tN "SUPPRESSED_SENTINEL" Bundle.listD A s' s'.heap := by rw [hhp]; exact vx_Zq.moved hW0.alike (hN.kept hS.2.1)
  have h : ∀ w ∈ nsAtoms own ic cls Y9 r9, w.before args s' = true := vx_own hat' (vx_isRefq hU'.1) (vx_isRefq hN'.1) hU'.2.word hN'.2.word
  have hown' : s'.vm.findClass own = some m.cls := by rw [hvm]; exact hown
  have hins : (Cond.instantiable cls 6).before args s' = true := h _ (by simp [nsAtoms])
  obtain ⟨vm₁, cX, kX, hfX, hkX, -, -, X₁, st1⟩ := Y.newCold hexec (own := own) (C := cls) (index := ik) (n := 6) hown' hk' hins hini'
    (g := F0 m pc ls rest) rfl (by rw [hb]; exact d0) (Nat.le_refl _) (Nat.le_refl _)
  generalize hT1 : (T.setVm vm₁).pushCell { cls := cX, slots := kX.instanceTypes.map defaultValue, vm := .none } = T1 at X₁ st1
  have hcat : (Value.ref T.heap.size).category = 1 := rfl
  have hcellA : T1.heap[T.heap.size]? = some (freshCell cX kX) := by rw [← hT1]; exact State.heap_pushCell_size _ _
  have d3' : decode c.code (pc + 3) = .ok (.dup, 1) := by rw [hb]; exact d3
  have d4' : decode c.code (pc + 4) = .ok (.ldc is, 2) := by rw [hb]; exact d4
  have hstr' : vk_R own is text sa s' := vk_R.warm hW0 hstr
  obtain ⟨V, ce, L, Z, hL, hlt, hcl9, hvm9, st⟩ := ns_ctorMade X₁ hexec htr (own := own) (cls := cls) (Y9 := Y9) (r9 := r9) (ic := ic) hown' hcls hnames h (fun x hx => nomatch hx) hfX hkX hcellA (by rw [hhp]; exact Nat.le_refl _) (msg := .ref sa) rfl
    (g := { method := m, pc := pc + 6, locals := ls, stack := .ref sa :: .ref T.heap.size :: .ref T.heap.size :: rest, locked := none }) rfl hsize (rest := rest) rfl
    (by rw [hb]; exact d6) hRframes (by simp only [List.map_cons, List.sum_cons, hcat]; omega)
  have Z0 := Stand.forget (locs := []) Z (fun y hy => by rw [hL y hy, hhp]; exact Nat.le_refl _)
  obtain ⟨f1, f2⟩ := vx_frame Z0.same
  rw [hhp] at f1 f2
  have hcid : s.vm.findClass cls = some ce.cls := by
    rw [hcl9]
    rw [hvm] at hfX
    exact hfX
  have hh : (V.setCell T.heap.size ce).heap[T.heap.size]? = some ce := heapAt_setCell_self (s := V) ce hlt
  subst hA'
  have X5 := ns_back9 X Y Z0
  have X6 : Stand p l e R s m args below meth c (V.setCell T.heap.size ce) locs (cells + 1) (slots + 6) := { X5 with same := X5.same.mono (by omega) (by omega) }
  obtain ⟨t, a1, b1⟩ := kk T.heap.size ce (V.setCell T.heap.size ce).heap hh hvm9 hcid f1 (fun q h1 => f2 q h1 (fun z hz => nomatch hz)) _ rfl X6
  refine ⟨t, st1 _ ?_, b1⟩
  show Steps p.tables e below (T1.setTop { method := m, pc := pc + 3, locals := ls, stack := .ref T.heap.size :: rest, locked := none }) _
  jvm_step X₁.here [X₁.here.top, hexec, d3', Value.category]
  exact X₁.ldcString hexec (own := own) (text := text) (index := is) (a := sa) hown' hstr'.1 hstr'.2
    (g := { method := m, pc := pc + 4, locals := ls, stack := .ref T.heap.size :: .ref T.heap.size :: rest, locked := none }) rfl d4' _ (st _ a1)
theorem ns_makeW {cc : ByteArray} {pc : Nat} (hexec : p.tables.exec = Jvm.exec) (hb : c.code = cc) (hl : l.stackTraces = false) {own cls text : String} {Y9 : String} {r9 : List String} {ik is ic sa : Nat} {A : Nat → Prop}
    (hown : s.vm.findClass own = some m.cls) (hcls : Bundle.fit cls = true) (hnames : ∀ n ∈ Y9 :: r9, Bundle.fit n = true)
    (hk : (Cond.classLink own ik cls).before args s = true) (hini : (Cond.initialized cls).before args s = true) (hstr : vk_R own is text sa s) (hat : ∀ w ∈ nsAt own ic cls Y9 r9, w.before args s = true)
    (hgood : ∀ w ∈ Cond.classLink own ik cls :: Cond.initialized cls :: nsAt own ic cls Y9 r9, vx_ot w = true)
    (hU : vx_Zq Bundle.tN "UNASSIGNED_STACK" Bundle.steD A s s.heap) (hN : vx_Zq Bundle.tN "SUPPRESSED_SENTINEL" Bundle.listD A s s.heap) (hS : va_S A s.heap H locs) (hsize : ls.size = c.maxLocals)
    (d0 : decode cc pc = .ok (.new ik, 3)) (d3 : decode cc (pc + 3) = .ok (.dup, 1)) (d4 : decode cc (pc + 4) = .ok (.ldc_w is, 3)) (d6 : decode cc (pc + 7) = .ok (.invokespecial ic, 3))
    (hRframes : (Y9 :: r9).length + 3 < R.frames) (hRlocals : (rest.map fun v => v.category).sum + (13 * ((Y9 :: r9).length + 1) + 43) ≤ R.locals) (hRcells : cells + 1 ≤ R.cells) (hRslots : slots + 6 ≤ R.slots)
    (kk : ∀ (q : Nat) (ce : Cell) (H1 : Heap), H1[q]? = some ce → ce.vm = .none → s.vm.findClass cls = some ce.cls → H.size ≤ H1.size → (∀ x : Nat, x < H.size → H1[x]? = H[x]?) → W p l e R s m args below meth c H1 locs (cells + 1) (slots + 6) Q (F0 m (pc + 10) ls (.ref q :: rest))) :
    W p l e R s m args below meth c H locs cells slots Q (F0 m pc ls rest) := by
  intro T hT X
  subst hT
  have htr : e.platform.stackTraces = false := (show e.platform.stackTraces = l.stackTraces by rw [X.admits.platform]).trans hl
  have Y := vx_rebase X (R' := { frames := R.frames, locals := R.locals, cells := 1, slots := 6 }) (Nat.le_refl _) (Nat.le_refl _) hRcells hRslots
  obtain ⟨s', hA'⟩ : ∃ z, z = (T.setVm s.vm).setFrames (.invoking m args :: below) := ⟨_, rfl⟩
  rw [← hA'] at Y
  have hvm : s'.vm = s.vm := by rw [hA']; rfl
  have hhp : s'.heap = T.heap := by rw [hA']; rfl
  have hW0 : s.WarmedH s'.vm := by rw [hvm]; exact State.WarmedH.refl s
  have hat' : ∀ w ∈ nsAt own ic cls Y9 r9, w.before args s' = true := fun w hw => vx_ot_at hW0 hvm.symm (hgood w (List.mem_cons_of_mem _ (List.mem_cons_of_mem _ hw))) (hat w hw)
  have hk' : (Cond.classLink own ik cls).before args s' = true := vx_ot_at hW0 hvm.symm (hgood _ List.mem_cons_self) hk
  have hini' : (Cond.initialized cls).before args s' = true := vx_ot_at hW0 hvm.symm (hgood _ (List.mem_cons_of_mem _ List.mem_cons_self)) hini
  have hU' : vx_Zq Bundle.tN "UNASSIGNED_STACK" Bundle.steD A s' s'.heap := by rw [hhp]; exact vx_Zq.moved hW0.alike (hU.kept hS.2.1)
  have hN' : vx_Zq Bundle.tN "SUPPRESSED_SENTINEL" Bundle.listD A s' s'.heap := by rw [hhp]; exact vx_Zq.moved hW0.alike (hN.kept hS.2.1)
  have h : ∀ w ∈ nsAtoms own ic cls Y9 r9, w.before args s' = true := vx_own hat' (vx_isRefq hU'.1) (vx_isRefq hN'.1) hU'.2.word hN'.2.word
  have hown' : s'.vm.findClass own = some m.cls := by rw [hvm]; exact hown
  have hins : (Cond.instantiable cls 6).before args s' = true := h _ (by simp [nsAtoms])
  obtain ⟨vm₁, cX, kX, hfX, hkX, -, -, X₁, st1⟩ := Y.newCold hexec (own := own) (C := cls) (index := ik) (n := 6) hown' hk' hins hini'
    (g := F0 m pc ls rest) rfl (by rw [hb]; exact d0) (Nat.le_refl _) (Nat.le_refl _)
  generalize hT1 : (T.setVm vm₁).pushCell { cls := cX, slots := kX.instanceTypes.map defaultValue, vm := .none } = T1 at X₁ st1
  have hcat : (Value.ref T.heap.size).category = 1 := rfl
  have hcellA : T1.heap[T.heap.size]? = some (freshCell cX kX) := by rw [← hT1]; exact State.heap_pushCell_size _ _
  have d3' : decode c.code (pc + 3) = .ok (.dup, 1) := by rw [hb]; exact d3
  have d4' : decode c.code (pc + 4) = .ok (.ldc_w is, 3) := by rw [hb]; exact d4
  have hstr' : vk_R own is text sa s' := vk_R.warm hW0 hstr
  obtain ⟨V, ce, L, Z, hL, hlt, hcl9, hvm9, st⟩ := ns_ctorMade X₁ hexec htr (own := own) (cls := cls) (Y9 := Y9) (r9 := r9) (ic := ic) hown' hcls hnames h (fun x hx => nomatch hx) hfX hkX hcellA (by rw [hhp]; exact Nat.le_refl _) (msg := .ref sa) rfl
    (g := { method := m, pc := pc + 7, locals := ls, stack := .ref sa :: .ref T.heap.size :: .ref T.heap.size :: rest, locked := none }) rfl hsize (rest := rest) rfl
    (by rw [hb]; exact d6) hRframes (by simp only [List.map_cons, List.sum_cons, hcat]; omega)
  have Z0 := Stand.forget (locs := []) Z (fun y hy => by rw [hL y hy, hhp]; exact Nat.le_refl _)
  obtain ⟨f1, f2⟩ := vx_frame Z0.same
  rw [hhp] at f1 f2
  have hcid : s.vm.findClass cls = some ce.cls := by
    rw [hcl9]
    rw [hvm] at hfX
    exact hfX
  have hh : (V.setCell T.heap.size ce).heap[T.heap.size]? = some ce := heapAt_setCell_self (s := V) ce hlt
  subst hA'
  have X5 := ns_back9 X Y Z0
  have X6 : Stand p l e R s m args below meth c (V.setCell T.heap.size ce) locs (cells + 1) (slots + 6) := { X5 with same := X5.same.mono (by omega) (by omega) }
  obtain ⟨t, a1, b1⟩ := kk T.heap.size ce (V.setCell T.heap.size ce).heap hh hvm9 hcid f1 (fun q h1 => f2 q h1 (fun z hz => nomatch hz)) _ rfl X6
  refine ⟨t, st1 _ ?_, b1⟩
  show Steps p.tables e below (T1.setTop { method := m, pc := pc + 3, locals := ls, stack := .ref T.heap.size :: rest, locked := none }) _
  jvm_step X₁.here [X₁.here.top, hexec, d3', Value.category]
  exact X₁.ldcStringW hexec (own := own) (text := text) (index := is) (a := sa) hown' hstr'.1 hstr'.2
    (g := { method := m, pc := pc + 4, locals := ls, stack := .ref T.heap.size :: .ref T.heap.size :: rest, locked := none }) rfl d4' _ (st _ a1)
end VX14
/-! METHODS THAT THROW: the exception's class, the words of its making, the contracts' form. -/
abbrev nsN : String := "java/util/NoSuchElementException"
theorem ns_g : ∀ w ∈ (nsAt "OysterBeds" 115 nsN "java/lang/RuntimeException" ["java/lang/Exception"]).filter goodWord, w ∈ lw_tbl := by decide +kernel
theorem ns_n : ∀ w ∈ (nsAt "OysterBeds" 115 nsN "java/lang/RuntimeException" ["java/lang/Exception"]).filter (fun w => !goodWord w), w ∈ NWL := by decide +kernel
theorem ns_o : ∀ w ∈ Cond.classLink "OysterBeds" 111 nsN :: Cond.initialized nsN :: nsAt "OysterBeds" 115 nsN "java/lang/RuntimeException" ["java/lang/Exception"], vx_ot w = true := by decide +kernel
theorem nwl_on {w : Cond} (hw : w ∈ NWL) : w.onTables = true := by
  have h1 : NWL.all (fun w => w.onTables) = true := by decide +kernel
  exact List.all_eq_true.mp h1 w hw
def QX (G : gT) (χ σ : St) (q : Option Value) : Array Value → State → Outcome → State → Prop := fun _ _ o t => q.isSome = true ∧ o = .returned q ∧ HH G χ σ t.heap
def XX (G : gT) (χ σ : St) (q : Option Value) : String → State → State → Prop := fun E _ t => q = none ∧ E = nsN ∧ HH G χ σ t.heap
abbrev rmx (fr lo : Nat) : Room := { frames := fr, cells := 1, slots := 6, locals := lo }
/-- A CONTRACT of a method that answers (q is its answer) or throws (q is none), and writes nothing -/
def Cx (l : Launch) (G : gT) (y : MethodName) (cc : ByteArray) (nL : Nat) (ret : Option FieldType) (fr lo : Nat) (As : List Value) (χ σ : St) (q : Option Value) : Prop :=
  vx_Met l y (Cond.code y cc nL ret :: WG) (rmx fr lo) (va_Pc As (fun U => KK G U ∧ HH G χ σ U.heap)) (QX G χ σ q) (XX G χ σ q) 1 6 (gA G)
theorem Cx.of {l : Launch} {G : gT} {y : MethodName} {cc : ByteArray} {nL : Nat} {ret : Option FieldType} {fr lo : Nat} {As : List Value} {χ σ : St} {q : Option Value} (hy : plainName y.cls = true) (hn : (lg_sl As).length ≤ nL)
    (body : ∀ (p : Program) (e : Env) (s : State) (m : MethodId) (args : Array Value) (below : List Frame) (meth : Method) (c : Code) (Q : State → Prop), FX p m c cc nL s args y.cls G → meth.sig.returnType = ret → meth.locks = false → (∀ x ∈ c.exceptionTable.toList, False) → HH G χ σ s.heap → vx_MQ below (QX G χ σ q) (XX G χ σ q) args s 1 6 (gA G) = Q →
      Wat p l e (rmx fr lo) s m args below meth c Q G nL 0 [] (lv_args 0 As) χ σ) : Cx l G y cc nL ret fr lo As χ σ q := by
  refine vx_ofW (cc := cc) (maxL := nL) (ret := ret) hy rfl ?_
  intro p e s m args below meth c s₁ B hml ht hv
  obtain ⟨rfl, hK, hH⟩ := hv
  have hts := atoms_spec (ws := Cond.code y cc nL ret :: WG) B.pre
  rw [lg_entry_eq]
  exact body p e s m _ below meth c _ ⟨B.exec, B.bytes, hml, findClass_of_methodNamed B.named, fun w hw => hts w (List.mem_cons_of_mem _ hw), hK⟩ B.returns B.notSynchronized ht hH rfl _ _ _ ⟨hH, fun q hq => absurd hq List.not_mem_nil⟩ (lv_entry As hn)
theorem Met.ofWH' {l : Launch} {y : MethodName} {ws ws' : List Cond} {rm : Room} {Pc : Array Value → State → Prop} {Qc : Array Value → State → Outcome → State → Prop} {mc ms : Nat} {free : Addr → Prop} {cc : ByteArray} {maxL : Nat} {ret : Option FieldType} {hh : List (Nat × Nat × Nat × Nat)}
    (hy : plainName y.cls = true) (hw : ws = Cond.codeWith y cc maxL ret hh :: ws')
    (body : ∀ p e s m args below meth c s₁, BodyLoose p l y (headSpec ws rm) cc maxL ret e s m args below meth c s₁ → c.maxLocals = maxL → Pc args s →
      W p l e (headSpec ws rm).room s m args below meth c s.heap [] 0 0 (MQ below Qc args s mc ms free) (entryFrame m args maxL)) : Met l y ws rm Pc Qc mc ms free := by
  refine MetFree.of_bodyS (code := cc) (maxLocals := maxL) (ret := ret) hy ?_ ?_
  · intro args s m h hn
    obtain ⟨m9, meth, c, hn9, h1, h2, h3, h4, -, h5, h6, -⟩ := Cond.codeWith_spec (atoms_spec (ws := ws) h _ (by rw [hw]; exact List.mem_cons_self))
    cases hn.symm.trans hn9
    exact ⟨meth, c, h1, h2, h3, h4, h5, h6⟩
  · intro p e s m args below meth c s₁ B hml hP _
    have hh0 : s₁.heap = s.heap := by rw [B.state]; rfl
    obtain ⟨t, a1, o, b1, b2, b3⟩ := body p e s m args below meth c s₁ B hml hP s₁ hh0 (Stand.of_body B)
    exact ⟨t, o, a1, b1, b2, b3⟩
/-- a contract of a method that catches what it calls throws: it makes an object at most -/
def Cw (l : Launch) (G : gT) (y : MethodName) (cc : ByteArray) (nL : Nat) (ret : Option FieldType) (hh : List (Nat × Nat × Nat × Nat)) (fr lo : Nat) (As : List Value) (χ σ : St) (rv : Option Value) (χ' σ' : St) : Prop :=
  Met l y (Cond.codeWith y cc nL ret hh :: WG) (rmx fr lo) (va_Pc As (fun U => KK G U ∧ HH G χ σ U.heap)) (QR G χ' σ' rv) 1 6 (gA G)
theorem Cw.of {l : Launch} {G : gT} {y : MethodName} {cc : ByteArray} {nL : Nat} {ret : Option FieldType} {hh : List (Nat × Nat × Nat × Nat)} {fr lo : Nat} {As : List Value} {χ σ : St} {rv : Option Value} {χ' σ' : St} (hy : plainName y.cls = true) (hn : (lg_sl As).length ≤ nL)
    (body : ∀ (p : Program) (e : Env) (s : State) (m : MethodId) (args : Array Value) (below : List Frame) (meth : Method) (c : Code) (Q : State → Prop), FX p m c cc nL s args y.cls G → meth.sig.returnType = ret → meth.locks = false → c.exceptionTable.toList = tableOf hh → MQ below (QR G χ' σ' rv) args s 1 6 (gA G) = Q →
      Wat p l e (rmx fr lo) s m args below meth c Q G nL 0 [] (lv_args 0 As) χ σ) : Cw l G y cc nL ret hh fr lo As χ σ rv χ' σ' := by
  refine Met.ofWH' (cc := cc) (maxL := nL) (ret := ret) (hh := hh) hy rfl ?_
  intro p e s m args below meth c s₁ B hml hv
  obtain ⟨rfl, hK, hH⟩ := hv
  have hts := atoms_spec (ws := Cond.codeWith y cc nL ret hh :: WG) B.pre
  have ht := vx_table (x := y) B (hts _ List.mem_cons_self)
  rw [lg_entry_eq]
  exact body p e s m _ below meth c _ ⟨B.exec, B.bytes, hml, findClass_of_methodNamed B.named, fun w hw => hts w (List.mem_cons_of_mem _ hw), hK⟩ B.returns B.notSynchronized ht rfl _ _ _ ⟨hH, fun q hq => absurd hq List.not_mem_nil⟩ (lv_entry As hn)
section XROWS
variable {p : Program} {l : Launch} {e : Env} {R : Room} {s : State} {m : MethodId} {args : Array Value} {below : List Frame} {meth : Method} {c : Code} {H : Heap} {locs : List Loc} {cells slots : Nat} {Q : State → Prop}
variable {pc nL : Nat} {ls : Array Slot} {rest st : List Value} {cc : ByteArray} {own : String} {G : gT} {χ σ χ' σ' : St} {lv : List (Nat × Value)}
theorem w_size {g : JFrame} (k : s.heap.size ≤ H.size → W p l e R s m args below meth c H locs cells slots Q g) : W p l e R s m args below meth c H locs cells slots Q g := by
  intro T hT X
  exact k (by have h := X.same.2.1; rw [← hT]; exact h) T hT X
theorem w_widen {g : JFrame} {k n : Nat} (h1 : cells ≤ k) (h2 : slots ≤ n) (kk : W p l e R s m args below meth c H locs k n Q g) : W p l e R s m args below meth c H locs cells slots Q g := fun T hT X => kk T hT (stand_widen X h1 h2)
theorem ns_at (X : FX p m c cc nL s args own G) : ∀ w ∈ nsAt "OysterBeds" 115 nsN "java/lang/RuntimeException" ["java/lang/Exception"], w.before args s = true :=
  vx_hat (B := NWL) (fun w hw => X.2.2.2.2.1 w (List.mem_filter.mpr ⟨ns_g w hw, (List.mem_filter.mp hw).2⟩)) ns_n (fun w hw => va_Nw.use (nwl_on hw) (X.2.2.2.2.2.2.1 w hw))
theorem vx_keptG {C n d : String} {t : Heap} (h : vx_Zq C n d (gA G) s (gH G)) (ht : HH G χ σ t) : vx_Zq C n d (gA G) s t := h.kept (fun a ha hA => ht.2.2.1 a ha hA)
theorem hh_mono {t : Heap} (h : HH G χ σ H) (h1 : H.size ≤ t.size) (h2 : ∀ q : Nat, q < H.size → t[q]? = H[q]?) : HH G χ σ t :=
  ⟨h.1.kept (fun k q hk => h2 _ (vx_lt h.1 hk)), h.2.1, fun q hq hA => by rw [h2 q (Nat.lt_of_lt_of_le hq h.2.2.2)]; exact h.2.2.1 q hq hA, Nat.le_trans h.2.2.2 h1⟩
theorem r_oret {v : Int32} (X : FX p m c cc nL s args own G) (hr : meth.sig.returnType = some .int) (hk : meth.locks = false) (h : HQ G χ σ H locs) (hdg : decode cc pc = .ok (.ireturn, 1)) {q : Option Value} (hq : q = some (.int v)) :
    W p l e R s m args below meth c H locs 0 0 (vx_MQ below (QX G χ σ q) (XX G χ σ q) args s 1 6 (gA G)) (F0 m pc ls [.int v]) :=
  w_widen (Nat.zero_le 1) (Nat.zero_le 6) (vx_ret (W.iret (Qc := QX G χ σ q) X.1 X.2.1 hr (fun t ht _ => by subst hq; exact ⟨rfl, rfl, by rw [ht]; exact h.1⟩) h.2 hdg hk))
theorem r_olret {v : Int64} (X : FX p m c cc nL s args own G) (hr : meth.sig.returnType = some .long) (hk : meth.locks = false) (h : HQ G χ σ H locs) (hdg : decode cc pc = .ok (.lreturn, 1)) {q : Option Value} (hq : q = some (.long v)) :
    W p l e R s m args below meth c H locs 0 0 (vx_MQ below (QX G χ σ q) (XX G χ σ q) args s 1 6 (gA G)) (F0 m pc ls [.long v]) :=
  w_widen (Nat.zero_le 1) (Nat.zero_le 6) (vx_ret (W.lret (Qc := QX G χ σ q) X.1 X.2.1 hr (fun t ht _ => by subst hq; exact ⟨rfl, rfl, by rw [ht]; exact h.1⟩) h.2 hdg hk))
theorem thr_s (hf : FW G) (h0 : HH G χ σ s.heap) (h : HQ G χ σ H locs) (hsz : s.heap.size ≤ H.size) : va_S (gA G) s.heap H locs :=
  ⟨hsz, fun q h1 h2 => by have h3 : q < (gH G).size := Nat.lt_of_not_le (fun z => h2 ((hf.2 q).mpr z)); rw [h.1.2.2.1 q h3 h2, h0.2.2.1 q h3 h2], h.2⟩
theorem r_thrS {is sa : Nat} {text : String} (hf : FW G) (X : FX p m c cc nL s args "OysterBeds" G) (hls : l.stackTraces = false) (ht : ∀ x ∈ c.exceptionTable.toList, False) (h0 : HH G χ σ s.heap) (hk : meth.locks = false) (h : HQ G χ σ H locs) (hl : lv_has ls nL lv) (hstr : vk_R "OysterBeds" is text sa s)
    (hR : 6 ≤ R.frames ∧ 82 ≤ R.locals ∧ 1 ≤ R.cells ∧ 6 ≤ R.slots) (d0 : decode cc pc = .ok (.new 111, 3)) (d3 : decode cc (pc + 3) = .ok (.dup, 1)) (d4 : decode cc (pc + 4) = .ok (.ldc is, 2)) (d6 : decode cc (pc + 6) = .ok (.invokespecial 115, 3)) (d9 : decode cc (pc + 9) = .ok (.athrow, 1)) {q : Option Value} (hq : q = none) :
    W p l e R s m args below meth c H locs 0 0 (vx_MQ below (QX G χ σ q) (XX G χ σ q) args s 1 6 (gA G)) (F0 m pc ls []) := by
  refine w_size (fun hsz => ?_)
  exact ns_make (own := "OysterBeds") (cls := nsN) (text := text) (Y9 := "java/lang/RuntimeException") (r9 := ["java/lang/Exception"]) (ik := 111) (is := is) (ic := 115) (sa := sa) (A := gA G) X.1 X.2.1 hls X.2.2.2.1 (by decide +kernel) (by decide +kernel) (X.2.2.2.2.1 _ wd_875) (X.2.2.2.2.1 _ wd_18) hstr (ns_at X) ns_o
    (vx_keptG X.2.2.2.2.2.2.2.2.2.2.2.1 h0) (vx_keptG X.2.2.2.2.2.2.2.2.2.2.2.2.1 h0) (thr_s hf h0 h hsz) (hl.1.trans X.2.2.1.symm) d0 d3 d4 d6 hR.1 (by show 0 + _ ≤ _; exact hR.2.1) (by omega) (by omega)
    (fun a ce H1 h1 h2 h3 h4 h5 => ns_athrow X.1 X.2.1 d9 (vx_out (fun x hx => (ht x hx).elim) hk h1 h2 h3 (fun t ht9 _ => ⟨hq, rfl, by rw [ht9]; exact hh_mono h.1 h4 h5⟩) h.2 (by omega) (by omega)))
theorem r_thrSW {is sa : Nat} {text : String} (hf : FW G) (X : FX p m c cc nL s args "OysterBeds" G) (hls : l.stackTraces = false) (ht : ∀ x ∈ c.exceptionTable.toList, False) (h0 : HH G χ σ s.heap) (hk : meth.locks = false) (h : HQ G χ σ H locs) (hl : lv_has ls nL lv) (hstr : vk_R "OysterBeds" is text sa s)
    (hR : 6 ≤ R.frames ∧ 82 ≤ R.locals ∧ 1 ≤ R.cells ∧ 6 ≤ R.slots) (d0 : decode cc pc = .ok (.new 111, 3)) (d3 : decode cc (pc + 3) = .ok (.dup, 1)) (d4 : decode cc (pc + 4) = .ok (.ldc_w is, 3)) (d7 : decode cc (pc + 7) = .ok (.invokespecial 115, 3)) (d10 : decode cc (pc + 10) = .ok (.athrow, 1)) {q : Option Value} (hq : q = none) :
    W p l e R s m args below meth c H locs 0 0 (vx_MQ below (QX G χ σ q) (XX G χ σ q) args s 1 6 (gA G)) (F0 m pc ls []) := by
  refine w_size (fun hsz => ?_)
  exact ns_makeW (own := "OysterBeds") (cls := nsN) (text := text) (Y9 := "java/lang/RuntimeException") (r9 := ["java/lang/Exception"]) (ik := 111) (is := is) (ic := 115) (sa := sa) (A := gA G) X.1 X.2.1 hls X.2.2.2.1 (by decide +kernel) (by decide +kernel) (X.2.2.2.2.1 _ wd_875) (X.2.2.2.2.1 _ wd_18) hstr (ns_at X) ns_o
    (vx_keptG X.2.2.2.2.2.2.2.2.2.2.2.1 h0) (vx_keptG X.2.2.2.2.2.2.2.2.2.2.2.2.1 h0) (thr_s hf h0 h hsz) (hl.1.trans X.2.2.1.symm) d0 d3 d4 d7 hR.1 (by show 0 + _ ≤ _; exact hR.2.1) (by omega) (by omega)
    (fun a ce H1 h1 h2 h3 h4 h5 => ns_athrow X.1 X.2.1 d10 (vx_out (fun x hx => (ht x hx).elim) hk h1 h2 h3 (fun t ht9 _ => ⟨hq, rfl, by rw [ht9]; exact hh_mono h.1 h4 h5⟩) h.2 (by omega) (by omega)))
/-- a call of a method that answers or throws, inside a row of the table that catches it -/
theorem r_callX {y : MethodName} {bytes : ByteArray} {maxL n idx fr lo b : Nat} {ret : Option FieldType} {As : List Value} {q : Option Value} (X : FX p m c cc nL s args "OysterBedsLaw" G) (h : HQ G χ σ H locs) (hl : lv_has ls nL lv) (hM : MW y bytes maxL ret n) (hi : Cond.instanceMethod y ∈ WG) (hs : Cond.selects y.cls y y ∈ WG) (hlk : Cond.methodLink "OysterBedsLaw" idx y ∈ WG)
    (hC : Cx l G y bytes maxL ret fr lo (.ref b :: As) χ σ q) (hrc : ∃ cell : Cell, H[b]? = some cell ∧ cell.vm.isStatics = false ∧ s.vm.findClass y.cls = some cell.cls) (hn : As.length = n) (hR : fr + 1 ≤ R.frames ∧ 8 + (maxL + 11) + lo ≤ R.locals) (hf : 1 ≤ R.cells ∧ 6 ≤ R.slots)
    (hst : st = As.reverse ++ .ref b :: rest) (hW : (rest.map fun v => v.category).sum ≤ 8) (hdg : decode cc pc = .ok (.invokevirtual idx, 3)) {x : ExceptionTableEntry} (htab : c.exceptionTable.toList = [x]) (hx : covers x pc = true) (h0 : x.catchType = 13) {hp : Nat} (hpc : x.handlerPc = hp)
    (kx : ∀ (H1 : Heap) (locs1 : List Loc) (a : Addr), q = none → HQ G χ σ H1 locs1 → W p l e R s m args below meth c H1 locs1 1 6 Q (F0 m hp ls [.ref a]))
    (k : ∀ (v : Value) (H1 : Heap) (locs1 : List Loc), q = some v → HQ G χ σ H1 locs1 → W p l e R s m args below meth c H1 locs1 1 6 Q (F0 m (pc + 3) ls (v :: rest))) : W p l e R s m args below meth c H locs 0 0 Q (F0 m pc ls st) := by
  have cb : CallB R s args "OysterBedsLaw" idx y bytes maxL ret (Cond.code y bytes maxL ret :: WG) (rmx fr lo) 1 6 n := by
    obtain ⟨hc, hi, hd⟩ := hM
    refine ⟨rfl, rfl, hR.1, hR.2, ?_, List.mem_cons_self, X.2.2.2.2.1 _ hc, X.2.2.2.2.1 _ hi, ⟨hd.1, hd.2.1⟩, fun sig h => ?_, X.2.2.2.2.1 _ hlk⟩
    · intro w hw a' U hW
      have hw2 : w ∈ WG := (List.mem_cons.mp hw).elim (fun e => by rw [e]; exact hc) id
      exact word_at hW (good_of_word (wg_good hw2)) (X.2.2.2.2.1 w hw2)
    · have h2 := hd.2.2
      rw [h] at h2
      exact (Option.some.inj h2).symm
  have hr := vx_runV (g := F0 m pc ls st) (locs := locs) (cells := 0) (slots := 0) (below := below) (meth := meth) (p := p) (e := e) (l := l) (As := As) (rest := rest) ⟨X.1, X.2.1, X.2.2.1, X.2.2.2.1, X.2.2.2.2.1⟩ hC ⟨cb, X.2.2.2.2.1 _ hi, X.2.2.2.2.1 _ hs⟩ ⟨pc_blind (fun U V hv hh q => kh_blind hv hh q), hrc, fun U hU hWm => ⟨rfl, X.2.2.2.2.2.warm hWm, by rw [hU]; exact h.1⟩⟩ rfl hn hl.1 hst (lv_room hW) hdg (by omega)
  intro T hT X'
  rcases hr T hT X' with ⟨v, st₀, t, T', L, h0', X'', hL, e1, e2, ⟨hv1, hv, hH⟩, hg⟩ | ⟨a, st₀, t, T', L, E, ce, h0', X'', hL, e1, e2, ⟨hv1, hE, hH⟩, hce, hcv, hcl, hg⟩
  · cases hv
    obtain ⟨v, rfl⟩ := Option.isSome_iff_exists.mp hv1
    obtain ⟨t2, a1, b1⟩ := k v T'.heap (locs ++ L) rfl ⟨by rw [e1]; exact hH, fun q hq => (List.mem_append.mp hq).elim (h.2 q) (hL q)⟩ T' rfl (by simpa using X'')
    exact ⟨t2, hg t2 a1, b1⟩
  · subst hE
    have hkx := kx T'.heap (locs ++ L) a hv1 ⟨by rw [e1]; exact hH, fun q hq => (List.mem_append.mp hq).elim (h.2 q) (hL q)⟩
    have hc := vx_catch (own := "OysterBedsLaw") (name := nsN) (E := nsN) (pc := pc) (rest := rest) (H := T'.heap) (ce := ce) (q := a) (locs := locs ++ L) (cells := 1) (slots := 6) (Q := Q) (ls := ls) X.2.2.2.1 [] x [] (by rw [htab]; rfl) (fun z hz => absurd hz List.not_mem_nil) hx (by rw [h0]; decide) (by rw [h0]; exact X.2.2.2.2.1 _ wd_870) (va_Nw.use rfl (X.2.2.2.2.2.2.1 _ nw_36)) (by rw [e1]; exact hce) hcv hcl (by rw [hpc]; exact hkx)
    obtain ⟨t2, a1, b1⟩ := hc T' rfl (by simpa using X'')
    exact ⟨t2, hg.trans a1, b1⟩
theorem r_wret {v : Int32} (X : FX p m c cc nL s args own G) (hr : meth.sig.returnType = some .int) (hk : meth.locks = false) (h : HQ G χ σ H locs) (hdg : decode cc pc = .ok (.ireturn, 1)) :
    W p l e R s m args below meth c H locs 1 6 (MQ below (QR G χ σ (some (.int v))) args s 1 6 (gA G)) (F0 m pc ls [.int v]) :=
  W.iret X.1 X.2.1 hr (fun t ht _ => ⟨rfl, by rw [ht]; exact h.1⟩) h.2 hdg hk
end XROWS
abbrev yX11_oyster : MethodName := ⟨"OysterBeds", "oyster", "(II)I"⟩
theorem mwX11_oyster : MW yX11_oyster prog_1_method_6_code 3 (some .int) 2 := ⟨wd_874, wd_1, by decide +kernel⟩
theorem d_X11_oyster_0 : decode prog_1_method_6_code 0 = .ok (.aload_n 0, 1) := by decide +kernel
theorem d_X11_oyster_1 : decode prog_1_method_6_code 1 = .ok (.getfield 26, 3) := by decide +kernel
theorem d_X11_oyster_4 : decode prog_1_method_6_code 4 = .ok (.iload_n 1, 1) := by decide +kernel
theorem d_X11_oyster_5 : decode prog_1_method_6_code 5 = .ok (.invokevirtual 108, 3) := by decide +kernel
theorem d_X11_oyster_8 : decode prog_1_method_6_code 8 = .ok (.ifCond .ne 13, 3) := by decide +kernel
theorem d_X11_oyster_11 : decode prog_1_method_6_code 11 = .ok (.new 111, 3) := by decide +kernel
theorem d_X11_oyster_14 : decode prog_1_method_6_code 14 = .ok (.dup, 1) := by decide +kernel
theorem d_X11_oyster_15 : decode prog_1_method_6_code 15 = .ok (.ldc 113, 2) := by decide +kernel
theorem d_X11_oyster_17 : decode prog_1_method_6_code 17 = .ok (.invokespecial 115, 3) := by decide +kernel
theorem d_X11_oyster_20 : decode prog_1_method_6_code 20 = .ok (.athrow, 1) := by decide +kernel
theorem d_X11_oyster_21 : decode prog_1_method_6_code 21 = .ok (.iload_n 2, 1) := by decide +kernel
theorem d_X11_oyster_22 : decode prog_1_method_6_code 22 = .ok (.tableswitch 84 0 4 #[34, 44, 54, 64, 74], 34) := by decide +kernel
theorem d_X11_oyster_56 : decode prog_1_method_6_code 56 = .ok (.aload_n 0, 1) := by decide +kernel
theorem d_X11_oyster_57 : decode prog_1_method_6_code 57 = .ok (.getfield 26, 3) := by decide +kernel
theorem d_X11_oyster_60 : decode prog_1_method_6_code 60 = .ok (.getfield 118, 3) := by decide +kernel
theorem d_X11_oyster_63 : decode prog_1_method_6_code 63 = .ok (.iload_n 1, 1) := by decide +kernel
theorem d_X11_oyster_64 : decode prog_1_method_6_code 64 = .ok (.iaload, 1) := by decide +kernel
theorem d_X11_oyster_65 : decode prog_1_method_6_code 65 = .ok (.ireturn, 1) := by decide +kernel
theorem d_X11_oyster_66 : decode prog_1_method_6_code 66 = .ok (.aload_n 0, 1) := by decide +kernel
theorem d_X11_oyster_67 : decode prog_1_method_6_code 67 = .ok (.getfield 26, 3) := by decide +kernel
theorem d_X11_oyster_70 : decode prog_1_method_6_code 70 = .ok (.getfield 122, 3) := by decide +kernel
theorem d_X11_oyster_73 : decode prog_1_method_6_code 73 = .ok (.iload_n 1, 1) := by decide +kernel
theorem d_X11_oyster_74 : decode prog_1_method_6_code 74 = .ok (.iaload, 1) := by decide +kernel
theorem d_X11_oyster_75 : decode prog_1_method_6_code 75 = .ok (.ireturn, 1) := by decide +kernel
theorem d_X11_oyster_76 : decode prog_1_method_6_code 76 = .ok (.aload_n 0, 1) := by decide +kernel
theorem d_X11_oyster_77 : decode prog_1_method_6_code 77 = .ok (.getfield 26, 3) := by decide +kernel
theorem d_X11_oyster_80 : decode prog_1_method_6_code 80 = .ok (.getfield 125, 3) := by decide +kernel
theorem d_X11_oyster_83 : decode prog_1_method_6_code 83 = .ok (.iload_n 1, 1) := by decide +kernel
theorem d_X11_oyster_84 : decode prog_1_method_6_code 84 = .ok (.iaload, 1) := by decide +kernel
theorem d_X11_oyster_85 : decode prog_1_method_6_code 85 = .ok (.ireturn, 1) := by decide +kernel
theorem d_X11_oyster_86 : decode prog_1_method_6_code 86 = .ok (.aload_n 0, 1) := by decide +kernel
theorem d_X11_oyster_87 : decode prog_1_method_6_code 87 = .ok (.getfield 26, 3) := by decide +kernel
theorem d_X11_oyster_90 : decode prog_1_method_6_code 90 = .ok (.getfield 128, 3) := by decide +kernel
theorem d_X11_oyster_93 : decode prog_1_method_6_code 93 = .ok (.iload_n 1, 1) := by decide +kernel
theorem d_X11_oyster_94 : decode prog_1_method_6_code 94 = .ok (.iaload, 1) := by decide +kernel
theorem d_X11_oyster_95 : decode prog_1_method_6_code 95 = .ok (.ireturn, 1) := by decide +kernel
theorem d_X11_oyster_96 : decode prog_1_method_6_code 96 = .ok (.aload_n 0, 1) := by decide +kernel
theorem d_X11_oyster_97 : decode prog_1_method_6_code 97 = .ok (.getfield 26, 3) := by decide +kernel
theorem d_X11_oyster_100 : decode prog_1_method_6_code 100 = .ok (.getfield 131, 3) := by decide +kernel
theorem d_X11_oyster_103 : decode prog_1_method_6_code 103 = .ok (.iload_n 1, 1) := by decide +kernel
theorem d_X11_oyster_104 : decode prog_1_method_6_code 104 = .ok (.iaload, 1) := by decide +kernel
theorem d_X11_oyster_105 : decode prog_1_method_6_code 105 = .ok (.ireturn, 1) := by decide +kernel
theorem d_X11_oyster_106 : decode prog_1_method_6_code 106 = .ok (.new 111, 3) := by decide +kernel
theorem d_X11_oyster_109 : decode prog_1_method_6_code 109 = .ok (.dup, 1) := by decide +kernel
theorem d_X11_oyster_110 : decode prog_1_method_6_code 110 = .ok (.ldc 134, 2) := by decide +kernel
theorem d_X11_oyster_112 : decode prog_1_method_6_code 112 = .ok (.invokespecial 115, 3) := by decide +kernel
theorem d_X11_oyster_115 : decode prog_1_method_6_code 115 = .ok (.athrow, 1) := by decide +kernel
def f_X11_oyster (χ : St) (a1 : Int32) (a2 : Int32) : Option (Option Int32) := (f_X0_has χ 32 a1).bind (fun q1 => (if q1 = 0 then some none else (if a2 = (0 : Int32) then gd (inb a1 8) (some (some (cA χ 33 a1.toNatClampNeg))) else if a2 = (1 : Int32) then gd (inb a1 8) (some (some (cA χ 34 a1.toNatClampNeg))) else if a2 = (2 : Int32) then gd (inb a1 8) (some (some (cA χ 35 a1.toNatClampNeg))) else if a2 = (3 : Int32) then gd (inb a1 8) (some (some (cA χ 36 a1.toNatClampNeg))) else if a2 = (4 : Int32) then gd (inb a1 8) (some (some (cA χ 37 a1.toNatClampNeg))) else some none)))
theorem c_X11_oyster {l : Launch} {G : gT} {χ σ : St} {a1 : Int32} {a2 : Int32} (hf : FW G) (hls : l.stackTraces = false) {q : Option Int32} (h : f_X11_oyster χ a1 a2 = some q) : Cx l G yX11_oyster prog_1_method_6_code 3 (some .int) 6 82 [.ref (ga G 0), .int a1, .int a2] χ σ (q.map (fun v => .int v)) := by
  refine Cx.of (by decide) (Nat.le_of_ble_eq_true rfl) ?_
  intro p e s m args below meth c Q X hr hlk ht h0 hQ
  have hx := X.1
  have hb := X.2.1
  intro H locs ls hw hl
  have hl : lv_has ls 3 [(0, .ref (ga G 0)), (1, .int a1), (2, .int a2)] := hl
  unfold f_X11_oyster at h
  refine lv_aload_n hx hb d_X11_oyster_0 rfl (lv_at hl 0 rfl) ?_
  refine r_getr (j := 2) X hw ct7 (o_0 hf) rfl (Nat.le_of_ble_eq_true rfl) (q := 32) rfl wd_266 d_X11_oyster_1 ?_
  refine lv_iload_n hx hb d_X11_oyster_4 rfl (lv_at hl 1 rfl) ?_
  obtain ⟨q1, e2, h⟩ := bd_some h
  refine r_callV (As := [.int a1]) (rest := []) (st' := [.int q1]) X hw hl mwX0_has wd_409 wd_410 wd_618 (c_X0_has hf b_32 e2) (r_recv X hw ct0 (o_32 hf)) rfl ⟨Nat.le_of_ble_eq_true rfl, Nat.le_of_ble_eq_true rfl⟩ ⟨Nat.zero_le _, Nat.zero_le _⟩ rfl rfl (Nat.le_of_ble_eq_true rfl) d_X11_oyster_5 (fun H locs hw => ?_)
  refine lv_if_ne (tgt := 21) hx hb d_X11_oyster_8 (by decide) (fun hc => ?_) (fun hc => ?_)
  · have h := ite_f h hc
    refine lv_iload_n hx hb d_X11_oyster_21 rfl (lv_at hl 2 rfl) ?_
    by_cases hc0 : a2 = (0 : Int32)
    · have h := ite_t h hc0
      refine lv_tableIn (tgt := 56) hx hb d_X11_oyster_22 (by rw [hc0]; decide) (by rw [hc0]; decide) (by rw [hc0]; rfl) (by decide) ?_
      refine lv_aload_n hx hb d_X11_oyster_56 rfl (lv_at hl 0 rfl) ?_
      refine r_getr (j := 2) X hw ct7 (o_0 hf) rfl (Nat.le_of_ble_eq_true rfl) (q := 32) rfl wd_266 d_X11_oyster_57 ?_
      refine r_getrN (j := 0) X hw ct0 (o_32 hf) rfl (Nat.le_of_ble_eq_true rfl) (q := 33) rfl nw_7 d_X11_oyster_60 ?_
      refine lv_iload_n hx hb d_X11_oyster_63 rfl (lv_at hl 1 rfl) ?_
      obtain ⟨hi3, h⟩ := gd_some h
      refine r_iald X hw (o_33 hf) (Nat.le_of_ble_eq_true rfl) hi3 d_X11_oyster_64 ?_
      obtain rfl := Option.some.inj h
      subst hQ
      exact r_oret X hr hlk hw d_X11_oyster_65 rfl
    have h := ite_f h hc0
    by_cases hc1 : a2 = (1 : Int32)
    · have h := ite_t h hc1
      refine lv_tableIn (tgt := 66) hx hb d_X11_oyster_22 (by rw [hc1]; decide) (by rw [hc1]; decide) (by rw [hc1]; rfl) (by decide) ?_
      refine lv_aload_n hx hb d_X11_oyster_66 rfl (lv_at hl 0 rfl) ?_
      refine r_getr (j := 2) X hw ct7 (o_0 hf) rfl (Nat.le_of_ble_eq_true rfl) (q := 32) rfl wd_266 d_X11_oyster_67 ?_
      refine r_getrN (j := 1) X hw ct0 (o_32 hf) rfl (Nat.le_of_ble_eq_true rfl) (q := 34) rfl nw_11 d_X11_oyster_70 ?_
      refine lv_iload_n hx hb d_X11_oyster_73 rfl (lv_at hl 1 rfl) ?_
      obtain ⟨hi4, h⟩ := gd_some h
      refine r_iald X hw (o_34 hf) (Nat.le_of_ble_eq_true rfl) hi4 d_X11_oyster_74 ?_
      obtain rfl := Option.some.inj h
      subst hQ
      exact r_oret X hr hlk hw d_X11_oyster_75 rfl
    have h := ite_f h hc1
    by_cases hc2 : a2 = (2 : Int32)
    · have h := ite_t h hc2
      refine lv_tableIn (tgt := 76) hx hb d_X11_oyster_22 (by rw [hc2]; decide) (by rw [hc2]; decide) (by rw [hc2]; rfl) (by decide) ?_
      refine lv_aload_n hx hb d_X11_oyster_76 rfl (lv_at hl 0 rfl) ?_
      refine r_getr (j := 2) X hw ct7 (o_0 hf) rfl (Nat.le_of_ble_eq_true rfl) (q := 32) rfl wd_266 d_X11_oyster_77 ?_
      refine r_getrN (j := 2) X hw ct0 (o_32 hf) rfl (Nat.le_of_ble_eq_true rfl) (q := 35) rfl nw_14 d_X11_oyster_80 ?_
      refine lv_iload_n hx hb d_X11_oyster_83 rfl (lv_at hl 1 rfl) ?_
      obtain ⟨hi5, h⟩ := gd_some h
      refine r_iald X hw (o_35 hf) (Nat.le_of_ble_eq_true rfl) hi5 d_X11_oyster_84 ?_
      obtain rfl := Option.some.inj h
      subst hQ
      exact r_oret X hr hlk hw d_X11_oyster_85 rfl
    have h := ite_f h hc2
    by_cases hc3 : a2 = (3 : Int32)
    · have h := ite_t h hc3
      refine lv_tableIn (tgt := 86) hx hb d_X11_oyster_22 (by rw [hc3]; decide) (by rw [hc3]; decide) (by rw [hc3]; rfl) (by decide) ?_
      refine lv_aload_n hx hb d_X11_oyster_86 rfl (lv_at hl 0 rfl) ?_
      refine r_getr (j := 2) X hw ct7 (o_0 hf) rfl (Nat.le_of_ble_eq_true rfl) (q := 32) rfl wd_266 d_X11_oyster_87 ?_
      refine r_getrN (j := 3) X hw ct0 (o_32 hf) rfl (Nat.le_of_ble_eq_true rfl) (q := 36) rfl nw_17 d_X11_oyster_90 ?_
      refine lv_iload_n hx hb d_X11_oyster_93 rfl (lv_at hl 1 rfl) ?_
      obtain ⟨hi6, h⟩ := gd_some h
      refine r_iald X hw (o_36 hf) (Nat.le_of_ble_eq_true rfl) hi6 d_X11_oyster_94 ?_
      obtain rfl := Option.some.inj h
      subst hQ
      exact r_oret X hr hlk hw d_X11_oyster_95 rfl
    have h := ite_f h hc3
    by_cases hc4 : a2 = (4 : Int32)
    · have h := ite_t h hc4
      refine lv_tableIn (tgt := 96) hx hb d_X11_oyster_22 (by rw [hc4]; decide) (by rw [hc4]; decide) (by rw [hc4]; rfl) (by decide) ?_
      refine lv_aload_n hx hb d_X11_oyster_96 rfl (lv_at hl 0 rfl) ?_
      refine r_getr (j := 2) X hw ct7 (o_0 hf) rfl (Nat.le_of_ble_eq_true rfl) (q := 32) rfl wd_266 d_X11_oyster_97 ?_
      refine r_getrN (j := 4) X hw ct0 (o_32 hf) rfl (Nat.le_of_ble_eq_true rfl) (q := 37) rfl nw_19 d_X11_oyster_100 ?_
      refine lv_iload_n hx hb d_X11_oyster_103 rfl (lv_at hl 1 rfl) ?_
      obtain ⟨hi7, h⟩ := gd_some h
      refine r_iald X hw (o_37 hf) (Nat.le_of_ble_eq_true rfl) hi7 d_X11_oyster_104 ?_
      obtain rfl := Option.some.inj h
      subst hQ
      exact r_oret X hr hlk hw d_X11_oyster_105 rfl
    have h := ite_f h hc4
    have hn0 := lv_neT hc0 (a := 0) (by decide)
    have hn1 := lv_neT hc1 (a := 1) (by decide)
    have hn2 := lv_neT hc2 (a := 2) (by decide)
    have hn3 := lv_neT hc3 (a := 3) (by decide)
    have hn4 := lv_neT hc4 (a := 4) (by decide)
    refine lv_tableOut (tgt := 106) hx hb d_X11_oyster_22 (by omega) (by decide) ?_
    obtain rfl := Option.some.inj h
    subst hQ
    exact r_thrS hf X hls ht h0 hlk hw hl X.2.2.2.2.2.2.2.2.2.2.2.2.2.2.2.2.1 ⟨Nat.le_of_ble_eq_true rfl, Nat.le_of_ble_eq_true rfl, Nat.le_refl _, Nat.le_refl _⟩ d_X11_oyster_106 d_X11_oyster_109 d_X11_oyster_110 d_X11_oyster_112 d_X11_oyster_115 rfl
  · have h := ite_t h hc
    obtain rfl := Option.some.inj h
    subst hQ
    exact r_thrS hf X hls ht h0 hlk hw hl X.2.2.2.2.2.2.2.2.2.2.2.2.2.2.2.1 ⟨Nat.le_of_ble_eq_true rfl, Nat.le_of_ble_eq_true rfl, Nat.le_refl _, Nat.le_refl _⟩ d_X11_oyster_11 d_X11_oyster_14 d_X11_oyster_15 d_X11_oyster_17 d_X11_oyster_20 rfl
abbrev yX11_row : MethodName := ⟨"OysterBeds", "row", "(I)J"⟩
theorem mwX11_row : MW yX11_row prog_1_method_53_code 2 (some .long) 1 := ⟨wd_948, wd_1, by decide +kernel⟩
theorem d_X11_row_0 : decode prog_1_method_53_code 0 = .ok (.iload_n 1, 1) := by decide +kernel
theorem d_X11_row_1 : decode prog_1_method_53_code 1 = .ok (.ifCond .lt 14, 3) := by decide +kernel
theorem d_X11_row_4 : decode prog_1_method_53_code 4 = .ok (.iload_n 1, 1) := by decide +kernel
theorem d_X11_row_5 : decode prog_1_method_53_code 5 = .ok (.aload_n 0, 1) := by decide +kernel
theorem d_X11_row_6 : decode prog_1_method_53_code 6 = .ok (.getfield 19, 3) := by decide +kernel
theorem d_X11_row_9 : decode prog_1_method_53_code 9 = .ok (.getfield 375, 3) := by decide +kernel
theorem d_X11_row_12 : decode prog_1_method_53_code 12 = .ok (.if_icmp .lt 14, 3) := by decide +kernel
theorem d_X11_row_15 : decode prog_1_method_53_code 15 = .ok (.new 111, 3) := by decide +kernel
theorem d_X11_row_18 : decode prog_1_method_53_code 18 = .ok (.dup, 1) := by decide +kernel
theorem d_X11_row_19 : decode prog_1_method_53_code 19 = .ok (.ldc_w 376, 3) := by decide +kernel
theorem d_X11_row_22 : decode prog_1_method_53_code 22 = .ok (.invokespecial 115, 3) := by decide +kernel
theorem d_X11_row_25 : decode prog_1_method_53_code 25 = .ok (.athrow, 1) := by decide +kernel
theorem d_X11_row_26 : decode prog_1_method_53_code 26 = .ok (.aload_n 0, 1) := by decide +kernel
theorem d_X11_row_27 : decode prog_1_method_53_code 27 = .ok (.getfield 19, 3) := by decide +kernel
theorem d_X11_row_30 : decode prog_1_method_53_code 30 = .ok (.getfield 378, 3) := by decide +kernel
theorem d_X11_row_33 : decode prog_1_method_53_code 33 = .ok (.iload_n 1, 1) := by decide +kernel
theorem d_X11_row_34 : decode prog_1_method_53_code 34 = .ok (.laload, 1) := by decide +kernel
theorem d_X11_row_35 : decode prog_1_method_53_code 35 = .ok (.lreturn, 1) := by decide +kernel
def f_X11_row_j15 (χ : St) : Option (Option Int64) := some none
def f_X11_row (χ : St) (a1 : Int32) : Option (Option Int64) := (if a1 < 0 then f_X11_row_j15 χ else (if a1 < (cF χ 3 1) then gd (inb a1 12) (some (some (cL χ 4 a1.toNatClampNeg))) else f_X11_row_j15 χ))
theorem c_X11_row {l : Launch} {G : gT} {χ σ : St} {a1 : Int32} (hf : FW G) (hls : l.stackTraces = false) {q : Option Int64} (h : f_X11_row χ a1 = some q) : Cx l G yX11_row prog_1_method_53_code 2 (some .long) 6 82 [.ref (ga G 0), .int a1] χ σ (q.map (fun v => .long v)) := by
  refine Cx.of (by decide) (Nat.le_of_ble_eq_true rfl) ?_
  intro p e s m args below meth c Q X hr hlk ht h0 hQ
  have hx := X.1
  have hb := X.2.1
  have j15 : f_X11_row_j15 χ = some q → Wat p l e (rmx 6 82) s m args below meth c Q G 2 15 [] [] χ σ := by
    intro  h H locs ls hw hl
    unfold f_X11_row_j15 at h
    obtain rfl := Option.some.inj h
    subst hQ
    exact r_thrSW hf X hls ht h0 hlk hw hl X.2.2.2.2.2.2.2.2.2.2.2.2.2.2.2.2.2.1 ⟨Nat.le_of_ble_eq_true rfl, Nat.le_of_ble_eq_true rfl, Nat.le_refl _, Nat.le_refl _⟩ d_X11_row_15 d_X11_row_18 d_X11_row_19 d_X11_row_22 d_X11_row_25 rfl
  intro H locs ls hw hl
  have hl : lv_has ls 2 [(0, .ref (ga G 0)), (1, .int a1)] := hl
  unfold f_X11_row at h
  refine lv_iload_n hx hb d_X11_row_0 rfl (lv_at hl 1 rfl) ?_
  refine lv_if_lt (tgt := 15) hx hb d_X11_row_1 (by decide) (fun hc => ?_) (fun hc => ?_)
  · have h := ite_t h hc
    exact j15  h _ _ _ hw (lv_sub hl [] rfl)
  · have h := ite_f h hc
    refine lv_iload_n hx hb d_X11_row_4 rfl (lv_at hl 1 rfl) ?_
    refine lv_aload_n hx hb d_X11_row_5 rfl (lv_at hl 0 rfl) ?_
    refine r_getr (j := 1) X hw ct7 (o_0 hf) rfl (Nat.le_of_ble_eq_true rfl) (q := 3) rfl wd_265 d_X11_row_6 ?_
    refine r_getiN (j := 1) X hw ct6 (o_3 hf) (Nat.le_of_ble_eq_true rfl) rfl (Nat.le_of_ble_eq_true rfl) nw_5 d_X11_row_9 ?_
    refine lv_icmp_lt (tgt := 26) hx hb d_X11_row_12 (by decide) (fun hc => ?_) (fun hc => ?_)
    · have h := ite_t h hc
      refine lv_aload_n hx hb d_X11_row_26 rfl (lv_at hl 0 rfl) ?_
      refine r_getr (j := 1) X hw ct7 (o_0 hf) rfl (Nat.le_of_ble_eq_true rfl) (q := 3) rfl wd_265 d_X11_row_27 ?_
      refine r_getrN (j := 0) X hw ct6 (o_3 hf) rfl (Nat.le_of_ble_eq_true rfl) (q := 4) rfl nw_4 d_X11_row_30 ?_
      refine lv_iload_n hx hb d_X11_row_33 rfl (lv_at hl 1 rfl) ?_
      obtain ⟨hi1, h⟩ := gd_some h
      refine r_lald X hw (o_4 hf) (Nat.le_of_ble_eq_true rfl) hi1 d_X11_row_34 ?_
      obtain rfl := Option.some.inj h
      subst hQ
      exact r_olret X hr hlk hw d_X11_row_35 rfl
    · have h := ite_f h hc
      exact j15  h _ _ _ hw (lv_sub hl [] rfl)
abbrev yL_oyster : MethodName := ⟨"OysterBedsLaw", "oyster", "(LOysterBeds;II[J)I"⟩
theorem d_L_oyster_0 : decode method_3_code 0 = .ok (.aload_n 3, 1) := by decide +kernel
theorem d_L_oyster_1 : decode method_3_code 1 = .ok (.iconst 0, 1) := by decide +kernel
theorem d_L_oyster_2 : decode method_3_code 2 = .ok (.aload_n 0, 1) := by decide +kernel
theorem d_L_oyster_3 : decode method_3_code 3 = .ok (.iload_n 1, 1) := by decide +kernel
theorem d_L_oyster_4 : decode method_3_code 4 = .ok (.iload_n 2, 1) := by decide +kernel
theorem d_L_oyster_5 : decode method_3_code 5 = .ok (.invokevirtual 7, 3) := by decide +kernel
theorem d_L_oyster_8 : decode method_3_code 8 = .ok (.i2l, 1) := by decide +kernel
theorem d_L_oyster_9 : decode method_3_code 9 = .ok (.lastore, 1) := by decide +kernel
theorem d_L_oyster_10 : decode method_3_code 10 = .ok (.goto 7, 3) := by decide +kernel
theorem d_L_oyster_13 : decode method_3_code 13 = .ok (.astore 4, 2) := by decide +kernel
theorem d_L_oyster_15 : decode method_3_code 15 = .ok (.iconst 1, 1) := by decide +kernel
theorem d_L_oyster_16 : decode method_3_code 16 = .ok (.ireturn, 1) := by decide +kernel
theorem d_L_oyster_17 : decode method_3_code 17 = .ok (.iconst 0, 1) := by decide +kernel
theorem d_L_oyster_18 : decode method_3_code 18 = .ok (.ireturn, 1) := by decide +kernel
def f_L_oyster (χ : St) (a1 : Int32) (a2 : Int32) : Option (Int32 × St) := (f_X11_oyster χ a1 a2).bind (fun q => match q with | some v => some ((0 : Int32), sL χ 26 0 v.toInt64) | none => some ((1 : Int32), χ))
theorem c_L_oyster {l : Launch} {G : gT} {χ σ : St} {a1 a2 : Int32} (hf : FW G) (hls : l.stackTraces = false) {q : Int32 × St} (h : f_L_oyster χ a1 a2 = some q) : Cw l G yL_oyster method_3_code 5 (some .int) [(0, 10, 13, 13)] 7 104 [.ref (ga G 0), .int a1, .int a2, .ref (ga G 26)] χ σ (some (.int q.1)) q.2 σ := by
  unfold f_L_oyster at h
  obtain ⟨q1, e1, h⟩ := bd_some h
  refine Cw.of (by decide) (Nat.le_of_ble_eq_true rfl) ?_
  intro p e s m args below meth c Q X hr hlk ht hQ
  have hx := X.1
  have hb := X.2.1
  intro H locs ls hw hl
  have hl : lv_has ls 5 [(0, .ref (ga G 0)), (1, .int a1), (2, .int a2), (3, .ref (ga G 26))] := hl
  refine lv_aload_n hx hb d_L_oyster_0 rfl (lv_at hl 3 rfl) ?_
  refine lv_iconst (v := (0 : Int32)) hx hb d_L_oyster_1 (by decide) ?_
  refine lv_aload_n hx hb d_L_oyster_2 rfl (lv_at hl 0 rfl) ?_
  refine lv_iload_n hx hb d_L_oyster_3 rfl (lv_at hl 1 rfl) ?_
  refine lv_iload_n hx hb d_L_oyster_4 rfl (lv_at hl 2 rfl) ?_
  refine r_callX (As := [.int a1, .int a2]) (rest := [.int (0 : Int32), .ref (ga G 26)]) X hw hl mwX11_oyster wd_872 wd_873 wd_871 (c_X11_oyster hf hls e1) (r_recv X hw ct7 (o_0 hf)) rfl ⟨Nat.le_of_ble_eq_true rfl, Nat.le_of_ble_eq_true rfl⟩ ⟨Nat.le_refl _, Nat.le_refl _⟩ rfl (Nat.le_of_ble_eq_true rfl) d_L_oyster_5 ht (by decide) rfl (hp := 13) rfl (fun H locs a hq hw => ?_) (fun v9 H locs hq hw => ?_)
  · cases q1 with
    | some v => cases hq
    | none =>
      obtain rfl := Option.some.inj h
      refine lv_astore (lv' := (4, .ref a) :: [(0, .ref (ga G 0)), (1, .int a1), (2, .int a2), (3, .ref (ga G 26))]) hx hb d_L_oyster_13 hl (Nat.le_of_ble_eq_true rfl) rfl (fun ls hl => ?_)
      refine lv_iconst (v := (1 : Int32)) hx hb d_L_oyster_15 (by decide) ?_
      subst hQ
      exact r_wret X hr hlk hw d_L_oyster_16
  · cases q1 with
    | none => cases hq
    | some v =>
      obtain rfl := Option.some.inj h
      obtain rfl := Option.some.inj hq
      refine lv_i2l hx hb d_L_oyster_8 rfl ?_
      refine r_last X hw (o_26 hf) (Nat.le_of_ble_eq_true rfl) (by decide) d_L_oyster_9 (fun H locs hw => ?_)
      refine lv_goto (tgt := 17) hx hb d_L_oyster_10 (by decide) ?_
      refine lv_iconst (v := (0 : Int32)) hx hb d_L_oyster_17 (by decide) ?_
      subst hQ
      exact r_wret X hr hlk hw d_L_oyster_18
abbrev yL_row : MethodName := ⟨"OysterBedsLaw", "row", "(LOysterBeds;I[J)I"⟩
theorem d_L_row_0 : decode method_4_code 0 = .ok (.aload_n 2, 1) := by decide +kernel
theorem d_L_row_1 : decode method_4_code 1 = .ok (.iconst 0, 1) := by decide +kernel
theorem d_L_row_2 : decode method_4_code 2 = .ok (.aload_n 0, 1) := by decide +kernel
theorem d_L_row_3 : decode method_4_code 3 = .ok (.iload_n 1, 1) := by decide +kernel
theorem d_L_row_4 : decode method_4_code 4 = .ok (.invokevirtual 15, 3) := by decide +kernel
theorem d_L_row_7 : decode method_4_code 7 = .ok (.lastore, 1) := by decide +kernel
theorem d_L_row_8 : decode method_4_code 8 = .ok (.goto 6, 3) := by decide +kernel
theorem d_L_row_11 : decode method_4_code 11 = .ok (.astore_n 3, 1) := by decide +kernel
theorem d_L_row_12 : decode method_4_code 12 = .ok (.iconst 1, 1) := by decide +kernel
theorem d_L_row_13 : decode method_4_code 13 = .ok (.ireturn, 1) := by decide +kernel
theorem d_L_row_14 : decode method_4_code 14 = .ok (.iconst 0, 1) := by decide +kernel
theorem d_L_row_15 : decode method_4_code 15 = .ok (.ireturn, 1) := by decide +kernel
def f_L_row (χ : St) (a1 : Int32) : Option (Int32 × St) := (f_X11_row χ a1).bind (fun q => match q with | some v => some ((0 : Int32), sL χ 26 0 v) | none => some ((1 : Int32), χ))
theorem c_L_row {l : Launch} {G : gT} {χ σ : St} {a1 : Int32} (hf : FW G) (hls : l.stackTraces = false) {q : Int32 × St} (h : f_L_row χ a1 = some q) : Cw l G yL_row method_4_code 4 (some .int) [(0, 8, 11, 13)] 7 103 [.ref (ga G 0), .int a1, .ref (ga G 26)] χ σ (some (.int q.1)) q.2 σ := by
  unfold f_L_row at h
  obtain ⟨q1, e1, h⟩ := bd_some h
  refine Cw.of (by decide) (Nat.le_of_ble_eq_true rfl) ?_
  intro p e s m args below meth c Q X hr hlk ht hQ
  have hx := X.1
  have hb := X.2.1
  intro H locs ls hw hl
  have hl : lv_has ls 4 [(0, .ref (ga G 0)), (1, .int a1), (2, .ref (ga G 26))] := hl
  refine lv_aload_n hx hb d_L_row_0 rfl (lv_at hl 2 rfl) ?_
  refine lv_iconst (v := (0 : Int32)) hx hb d_L_row_1 (by decide) ?_
  refine lv_aload_n hx hb d_L_row_2 rfl (lv_at hl 0 rfl) ?_
  refine lv_iload_n hx hb d_L_row_3 rfl (lv_at hl 1 rfl) ?_
  refine r_callX (As := [.int a1]) (rest := [.int (0 : Int32), .ref (ga G 26)]) X hw hl mwX11_row wd_946 wd_947 wd_945 (c_X11_row hf hls e1) (r_recv X hw ct7 (o_0 hf)) rfl ⟨Nat.le_of_ble_eq_true rfl, Nat.le_of_ble_eq_true rfl⟩ ⟨Nat.le_refl _, Nat.le_refl _⟩ rfl (Nat.le_of_ble_eq_true rfl) d_L_row_4 ht (by decide) rfl (hp := 11) rfl (fun H locs a hq hw => ?_) (fun v9 H locs hq hw => ?_)
  · cases q1 with
    | some v => cases hq
    | none =>
      obtain rfl := Option.some.inj h
      refine lv_astore_n (lv' := (3, .ref a) :: [(0, .ref (ga G 0)), (1, .int a1), (2, .ref (ga G 26))]) hx hb d_L_row_11 rfl hl (Nat.le_of_ble_eq_true rfl) rfl (fun ls hl => ?_)
      refine lv_iconst (v := (1 : Int32)) hx hb d_L_row_12 (by decide) ?_
      subst hQ
      exact r_wret X hr hlk hw d_L_row_13
  · cases q1 with
    | none => cases hq
    | some v =>
      obtain rfl := Option.some.inj h
      obtain rfl := Option.some.inj hq
      refine r_last X hw (o_26 hf) (Nat.le_of_ble_eq_true rfl) (by decide) d_L_row_7 (fun H locs hw => ?_)
      refine lv_goto (tgt := 14) hx hb d_L_row_8 (by decide) ?_
      refine lv_iconst (v := (0 : Int32)) hx hb d_L_row_14 (by decide) ?_
      subst hQ
      exact r_wret X hr hlk hw d_L_row_15
