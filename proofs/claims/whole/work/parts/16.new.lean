/-! CONSTRUCTORS: they begin with a bare object b, and end with it and what they made. -/
def zI (G : gT) (n : Nat) : va_E := .inl (gy G 1, n, .inl (fun _ => 0))
def zC (G : gT) (n : Nat) : va_E := .inl (gy G 0, n, .inl (fun _ => 0))
def zZ (G : gT) (n : Nat) : va_E := .inl (gy G 3, n, .inl (fun _ => 0))
def zL (G : gT) (n : Nat) : va_E := .inl (gy G 2, n, .inr (.inl (fun _ => 0)))
def zB (G : gT) (n : Nat) (f : Nat → Option Nat) : va_E := .inl (gy G 4, n, .inr (.inr (.inr (.inr f))))
/-- what a constructor stands on: A0 may be written since H0; what the statics lie in is kept -/
def CX (G : gT) (A0 : Nat → Prop) (H0 : Heap) : Prop := (∀ q, H0.size ≤ q → A0 q) ∧ (∀ q, A0 q → gA G q) ∧ (∀ q : Nat, q < (gH G).size → ¬ gA G q → H0[q]? = (gH G)[q]?) ∧ (gH G).size ≤ H0.size
def CPc (G : gT) (b : Nat) (v0 : va_E) (sz : Nat) : State → Prop := fun U => KK G U ∧ va_AO "OysterBeds$Bed" U ∧ U.heap.size = sz ∧ va_P (gD G) vwCl [(b, v0)] U.heap ∧ (gH G).size ≤ sz ∧ gA G b ∧ (∀ q, (gH G).size ≤ q → gA G q) ∧ ∀ q : Nat, q < (gH G).size → ¬ gA G q → U.heap[q]? = (gH G)[q]?
def CQ {S : Type} (G : gT) (b : Nat) (v0 : va_E) (out : S → va_W) (sz : Nat) : Array Value → State → Outcome → State → Prop :=
  va_Qv (fun _ : S => True) (fun a t => va_P (gD G) vwCl (out a) t.heap ∧ va_D (va_A [(b, v0)] sz) (out a)) (va_A [(b, v0)] sz)
abbrev rmc (fr lo nc ns : Nat) : Room := { frames := fr, cells := nc, slots := ns, locals := lo }
def Cc {S : Type} (l : Launch) (G : gT) (y : MethodName) (cc : ByteArray) (nL fr lo nc ns b : Nat) (v0 : va_E) (out : S → va_W) : Prop :=
  ∀ sz, Met l y (Cond.code y cc nL none :: WG) (rmc fr lo nc ns) (va_Pc [.ref b] (CPc G b v0 sz)) (CQ G b v0 out sz) nc ns (va_A [(b, v0)] sz)
theorem Cc.of {S : Type} {l : Launch} {G : gT} {y : MethodName} {cc : ByteArray} {nL fr lo nc ns b : Nat} {v0 : va_E} {out : S → va_W} (hy : plainName y.cls = true) (hn : (lg_sl [.ref b]).length ≤ nL) (hyn : y.name = "<init>")
    (body : ∀ (p : Program) (e : Env) (s : State) (m : MethodId) (args : Array Value) (below : List Frame) (meth : Method) (c : Code) (Q : State → Prop), FX p m c cc nL s args y.cls G → va_AO "OysterBeds$Bed" s → meth.sig.returnType = none → meth.locks = false → meth.name = "<init>" → CX G (va_A [(b, v0)] s.heap.size) s.heap →
      (∀ (H : Heap) (locs : List Loc) (ls : Array Slot) (a : S), va_P (gD G) vwCl (out a) H → va_D (va_A [(b, v0)] s.heap.size) (out a) → va_S (va_A [(b, v0)] s.heap.size) s.heap H locs → ∀ pc, decode cc pc = .ok (.return_, 1) → W p l e (rmc fr lo nc ns) s m args below meth c H locs nc ns Q (F0 m pc ls [])) →
      ∀ ls : Array Slot, va_P (gD G) vwCl [(b, v0)] s.heap → va_D (va_A [(b, v0)] s.heap.size) [(b, v0)] → va_S (va_A [(b, v0)] s.heap.size) s.heap s.heap [] → lv_has ls nL [(0, .ref b)] → W p l e (rmc fr lo nc ns) s m args below meth c s.heap [] 0 0 Q (F0 m 0 ls [])) : Cc l G y cc nL fr lo nc ns b v0 out := by
  intro sz
  refine Met.ofW (cc := cc) (maxL := nL) (ret := none) hy rfl ?_
  intro p e s m args below meth c s₁ B hml hv
  obtain ⟨rfl, hK, hO, rfl, hP, hz, hg, hgA, hh⟩ := hv
  have hts := atoms_spec (ws := Cond.code y cc nL none :: WG) B.pre
  have hnm : meth.name = "<init>" := (name_of_methodNamed B.named B.method).1.trans hyn
  rw [lg_entry_eq]
  have hlt : b < s.heap.size := vx_lt hP (k := 0) rfl
  refine body p e s m _ below meth c _ ⟨B.exec, B.bytes, hml, findClass_of_methodNamed B.named, fun w hw => hts w (List.mem_cons_of_mem _ hw), hK⟩ hO B.returns B.notSynchronized hnm ⟨fun q h => Or.inr h, fun q h => ?_, hh, hz⟩ (fun H locs ls a h1 h2 h3 pc hd => ?_) _ hP ⟨fun i j p q h1 h2 _ => ?_, fun k q hk => va_A.in hk⟩ va_S.rf (lv_entry [.ref b] hn)
  · rcases h with ⟨k, e, h⟩ | h
    · rcases k with _ | k
      · cases h; exact hg
      · simp at h
    · exact hgA q (Nat.le_trans hz h)
  · exact W.vret B.exec B.bytes B.returns (fun t ht _ => ⟨⟨a, rfl, trivial, by rw [ht]; exact h1, h2⟩, h3.F ht⟩) h3.2.2 hd B.notSynchronized
  · have e1 : i = 0 := by have := (List.getElem?_eq_some_iff.mp h1).1; simpa using this
    have e2 : j = 0 := by have := (List.getElem?_eq_some_iff.mp h2).1; simpa using this
    rw [e1, e2]
section GROW
variable {p : Program} {l : Launch} {e : Env} {R : Room} {s : State} {m : MethodId} {args : Array Value} {below : List Frame} {meth : Method} {c : Code} {H H0 : Heap} {locs : List Loc} {cells slots : Nat} {Q : State → Prop}
variable {pc nL : Nat} {ls : Array Slot} {rest st : List Value} {cc : ByteArray} {own : String} {G : gT} {A0 : Nat → Prop} {ws : va_W} {lv : List (Nat × Value)}
theorem g_ra {cA : ClassId} {ty : FieldType} {k : Nat} (hK : va_K (gD G) vwCl (gtys G ++ [(cA, ty)]) s) (hk : (gtys G)[k]? = some (gy G k, ty)) : cA = gy G k := by
  have key : ∀ c, va_RA s c ty → s.vm.findClass ("[" ++ ty.toString) = some c := by
    intro c h
    cases ty <;> first | exact h | (obtain ⟨_, _, _, _, _, h4⟩ := h; exact h4)
  have hl : k < (gtys G).length := (List.getElem?_eq_some_iff.mp hk).1
  have h1 := key _ (hK.2 k _ (by rw [List.getElem?_append_left hl]; exact hk)).2
  have h2 := key _ (hK.2 (gtys G).length (cA, ty) (by rw [List.getElem?_append_right (Nat.le_refl _)]; simp)).2
  exact Option.some.inj (h2.symm.trans h1)
theorem g_newa {k : Nat} {n : Int32} {N' : Nat} {a1 : (Nat → Int32) ⊕ (Nat → Int64) ⊕ (Nat → UInt32) ⊕ (Nat → UInt64) ⊕ (Nat → Option Nat)} (atype : ArrayType) {ty : FieldType} (X : FX p m c cc nL s args own G) (hC : CX G A0 H0) (hP : va_P (gD G) vwCl ws H) (hD : va_D A0 ws) (hS : va_S A0 H0 H locs) (hty : newarray.typeOf atype = ty) (hw : Cond.arrayClass (newarray.typeOf atype) ∈ WG) (hk : (gtys G)[k]? = some (gy G k, ty))
    (ha : ∀ cA : ClassId, vp_cell cA (N', a1) = arrV cA N' (fun _ => defaultValue ty)) (hn : ¬ n < 0) (hN : n.toNatClampNeg = N') (hbytes : N' * componentBytes ty ≤ 536870912) (hcells : cells + 1 ≤ R.cells) (hslots : slots + N' ≤ R.slots) (hdg : decode cc pc = .ok (.newarray atype, 2))
    (kk : ∀ (q : Nat) (H1 : Heap), va_P (gD G) vwCl (ws ++ [(q, .inl (gy G k, N', a1))]) H1 → va_D A0 (ws ++ [(q, .inl (gy G k, N', a1))]) → va_S A0 H0 H1 locs → W p l e R s m args below meth c H1 locs (cells + 1) (slots + N') Q (F0 m (pc + 2) ls (.ref q :: rest))) : W p l e R s m args below meth c H locs cells slots Q (F0 m pc ls (.int n :: rest)) := by
  refine va_newa (atype := atype) X.1 X.2.1 (X.2.2.2.2.1 _ hw) hty X.2.2.2.2.2.1 hP hD hS hC.1 ha hn hN hbytes hcells hslots hdg (fun q cA H1 h0 h1 h2 h3 => ?_)
  obtain rfl := g_ra h0 hk
  exact kk q H1 h1 h2 h3
theorem g_newq {idx : Nat} {n : Int32} {N' : Nat} (X : FX p m c cc nL s args own G) (hO : va_AO "OysterBeds$Bed" s) (hC : CX G A0 H0) (hP : va_P (gD G) vwCl ws H) (hD : va_D A0 ws) (hS : va_S A0 H0 H locs) (hw : Cond.classLink own idx "OysterBeds$Bed" ∈ WG)
    (hn : ¬ n < 0) (hN : n.toNatClampNeg = N') (hbytes : N' * 4 ≤ 536870912) (hcells : cells + 1 ≤ R.cells) (hslots : slots + N' ≤ R.slots) (hdg : decode cc pc = .ok (.anewarray idx, 3))
    (kk : ∀ (q : Nat) (H1 : Heap), va_P (gD G) vwCl (ws ++ [(q, zB G N' (fun _ => none))]) H1 → va_D A0 (ws ++ [(q, zB G N' (fun _ => none))]) → va_S A0 H0 H1 locs → W p l e R s m args below meth c H1 locs (cells + 1) (slots + N') Q (F0 m (pc + 3) ls (.ref q :: rest))) : W p l e R s m args below meth c H locs cells slots Q (F0 m pc ls (.int n :: rest)) := by
  refine va_newq (own := own) X.1 X.2.1 X.2.2.2.1 (X.2.2.2.2.1 _ hw) hO X.2.2.2.2.2.1 hP hD hS hC.1 hn hN hbytes hcells hslots hdg (fun q cA H1 h0 h1 h2 h3 => ?_)
  obtain rfl := g_ra (k := 4) h0 rfl
  exact kk q H1 h1 h2 h3
theorem g_init {a idx : Nat} (X : FX p m c cc nL s args own G) (hl : lv_has ls nL lv) (hlk : Cond.methodLink own idx Lib.objectInit ∈ WG) (hR : 1 ≤ R.frames ∧ 12 ≤ R.locals) (hdg : decode cc pc = .ok (.invokespecial idx, 3))
    (k : W p l e R s m args below meth c H locs cells slots Q (F0 m (pc + 3) ls [])) : W p l e R s m args below meth c H locs cells slots Q (F0 m pc ls [.ref a]) :=
  W.objInit X.1 X.2.1 (own := own) X.2.2.2.1 (X.2.2.2.2.1 _ hlk) (X.2.2.2.2.1 _ wd_30) (X.2.2.2.2.1 _ wd_31) rfl (hl.1.trans X.2.2.1.symm) rfl hdg hR.1 (by show 2 * 0 + 0 + 12 ≤ _; exact hR.2) k
theorem g_putF {a q ci N idx : Nat} {C : String} {T : u_T} {ty : Nat → FieldType} {fs : List Value} (q0 k : Nat) (X : FX p m c cc nL s args own G) (hT : CT ci C T N ty) (hP : va_P (gD G) vwCl ws H) (hD : va_D A0 ws) (hS : va_S A0 H0 H locs) (he : ws[q0]? = some (a, .inr (ci, fs))) (hk : k < N) (hlk : Cond.fieldLink own idx C (T k).2.1 (T k).2.2.1 ∈ WG) (hfin : (T k).2.2.2 = true) (hnm : meth.name = "<init>") (hdecl : C = own) (hn : narrow (ty k) (.ref q) = .ref q) (hfit : fits (ty k) (.ref q) = true) (hlen : k < fs.length) (hdg : decode cc pc = .ok (.putfield idx, 3))
    (kk : ∀ (H1 : Heap) (locs1 : List Loc), va_P (gD G) vwCl (ws.set q0 (a, .inr (ci, fs.set k (.ref q)))) H1 → va_D A0 (ws.set q0 (a, .inr (ci, fs.set k (.ref q)))) → va_S A0 H0 H1 locs1 → W p l e R s m args below meth c H1 locs1 cells slots Q (F0 m (pc + 3) ls rest)) : W p l e R s m args below meth c H locs cells slots Q (F0 m pc ls (.ref q :: .ref a :: rest)) :=
  va_putF (C := C) (T := T) (N := N) X.1 X.2.1 X.2.2.2.2.1 hT.2.1 ty hT.2.2.1 hT.2.2.2.1 X.2.2.2.1 X.2.2.2.2.2.1 hP hD hS q0 he hT.1 k hk (X.2.2.2.2.1 _ hlk) (fun x hx => by rw [hT.2.2.2.2.1 k hk] at hx; exact hx) hfin hnm ((hT.2.2.2.2.1 k hk).trans hdecl) (hT.2.2.1 k hk) hn hfit hlen hdg kk
theorem g_put {a q ci N idx : Nat} {C : String} {T : u_T} {ty : Nat → FieldType} {fs : List Value} (q0 k : Nat) (X : FX p m c cc nL s args own G) (hT : CT ci C T N ty) (hP : va_P (gD G) vwCl ws H) (hD : va_D A0 ws) (hS : va_S A0 H0 H locs) (he : ws[q0]? = some (a, .inr (ci, fs))) (hk : k < N) (hlk : Cond.fieldLink own idx C (T k).2.1 (T k).2.2.1 ∈ WG) (hfin : (T k).2.2.2 = false) (hn : narrow (ty k) (.ref q) = .ref q) (hfit : fits (ty k) (.ref q) = true) (hlen : k < fs.length) (hdg : decode cc pc = .ok (.putfield idx, 3))
    (kk : ∀ (H1 : Heap) (locs1 : List Loc), va_P (gD G) vwCl (ws.set q0 (a, .inr (ci, fs.set k (.ref q)))) H1 → va_D A0 (ws.set q0 (a, .inr (ci, fs.set k (.ref q)))) → va_S A0 H0 H1 locs1 → W p l e R s m args below meth c H1 locs1 cells slots Q (F0 m (pc + 3) ls rest)) : W p l e R s m args below meth c H locs cells slots Q (F0 m pc ls (.ref q :: .ref a :: rest)) :=
  va_put (D := gD G) (C := C) (T := T) (N := N) (v := .ref q) (ty := ty k) X.1 X.2.1 X.2.2.2.2.1 hT.2.1 ty hT.2.2.1 hT.2.2.2.1 X.2.2.2.1 X.2.2.2.2.2.1 hP hD hS q0 he hT.1 k hk (X.2.2.2.2.1 _ hlk) (fun x hx => by rw [hT.2.2.2.2.1 k hk] at hx; exact hx) hfin (hT.2.2.1 k hk) hn hfit hlen hdg kk
theorem g_get {a q ci N idx : Nat} {C : String} {T : u_T} {ty : Nat → FieldType} {fs : List Value} (q0 k : Nat) (X : FX p m c cc nL s args own G) (hT : CT ci C T N ty) (hP : va_P (gD G) vwCl ws H) (he : ws[q0]? = some (a, .inr (ci, fs))) (hk : k < N) (hlk : Cond.fieldLink own idx C (T k).2.1 (T k).2.2.1 ∈ WG) (hv : fs[k]? = some (.ref q)) (hdg : decode cc pc = .ok (.getfield idx, 3))
    (kk : W p l e R s m args below meth c H locs cells slots Q (F0 m (pc + 3) ls (.ref q :: rest))) : W p l e R s m args below meth c H locs cells slots Q (F0 m pc ls (.ref a :: rest)) :=
  va_get (D := gD G) (C := C) (T := T) (N := N) X.1 X.2.1 X.2.2.2.2.1 hT.2.1 X.2.2.2.1 X.2.2.2.2.2.1 hP q0 he hT.1 k hk (X.2.2.2.2.1 _ hlk) (fun x hx => by rw [hT.2.2.2.2.1 k hk] at hx; exact hx) (v := .ref q) hv hdg kk
theorem g_astq {a b N : Nat} {vs : List Value} {f : Nat → Option Nat} (q0 qk : Nat) (X : FX p m c cc nL s args own G) (hP : va_P (gD G) vwCl ws H) (hD : va_D A0 ws) (hS : va_S A0 H0 H locs) (ha : ws[q0]? = some (a, zB G N f)) (hv : ws[qk]? = some (b, .inr (0, vs))) {i : Int32} (hin : inb i N = true) (hdg : decode cc pc = .ok (.aastore, 1))
    (kk : ∀ (H1 : Heap) (locs1 : List Loc), va_P (gD G) vwCl (ws.set q0 (a, zB G N (va_up f i.toNatClampNeg (some b)))) H1 → va_D A0 (ws.set q0 (a, zB G N (va_up f i.toNatClampNeg (some b)))) → va_S A0 H0 H1 locs1 → W p l e R s m args below meth c H1 locs1 cells slots Q (F0 m (pc + 1) ls rest)) : W p l e R s m args below meth c H locs cells slots Q (F0 m pc ls (.ref b :: .int i :: .ref a :: rest)) :=
  va_astq X.1 X.2.1 X.2.2.2.2.2.1 hP hD hS q0 4 qk 0 (r := (RX0, TX0, 8)) ha rfl hv rfl (inb_in hin) hdg kk
/-- behind a constructor's call -/
theorem g_join {q sz : Nat} {v0 : va_E} {w0 w1 : va_W} {H1 : Heap} (hA : ∀ x, H0.size ≤ x → A0 x) (hS : H0.size ≤ H.size) (hP : va_P (gD G) vwCl (w0 ++ [(q, v0)]) H) (hD : va_D A0 (w0 ++ [(q, v0)])) (hz : H.size = sz) (hk : ∀ x : Nat, x < H.size → ¬ va_A [(q, v0)] sz x → H1[x]? = H[x]?) (hP1 : va_P (gD G) vwCl w1 H1) (hD1 : va_D (va_A [(q, v0)] sz) w1) :
    va_P (gD G) vwCl (w0 ++ w1) H1 ∧ va_D A0 (w0 ++ w1) := by
  subst hz
  have hql : (w0 ++ [(q, v0)])[w0.length]? = some (q, v0) := by rw [List.getElem?_append_right (Nat.le_refl _)]; simp
  have hw : ∀ (k : Nat) (x : Nat × va_E), w0[k]? = some x → (w0 ++ [(q, v0)])[k]? = some x := fun k x hx => by rw [List.getElem?_append_left (List.getElem?_eq_some_iff.mp hx).1]; exact hx
  have hP0 : va_P (gD G) vwCl w0 H := fun k x hx => hP k x (hw k x hx)
  have hno : ∀ (k : Nat) (x : Nat × va_E), w0[k]? = some x → ¬ va_A [(q, v0)] H.size x.1 := by
    intro k x hx h
    rcases h with ⟨j, e, h⟩ | h
    · have hj : j = 0 := by have := (List.getElem?_eq_some_iff.mp h).1; simpa using this
      subst hj
      have h2 : x.1 = q := by
        have := Option.some.inj h
        exact (congrArg Prod.fst this).symm
      have h3 := hD.1 k w0.length x _ (hw k x hx) hql h2
      exact absurd (List.getElem?_eq_some_iff.mp hx).1 (by omega)
    · exact absurd (vx_lt hP0 hx) (by omega)
  refine ⟨(hP0.kept (fun k x hx => hk x.1 (vx_lt hP0 hx) (hno k x hx))).app hP1, ?_, ?_⟩
  · intro i j x y hi hj hxy
    by_cases h1 : i < w0.length
    · rw [List.getElem?_append_left h1] at hi
      by_cases h2 : j < w0.length
      · rw [List.getElem?_append_left h2] at hj
        exact hD.1 i j x y (hw i x hi) (hw j y hj) hxy
      · rw [List.getElem?_append_right (by omega)] at hj
        exact absurd (by rw [hxy]; exact hD1.2 _ y hj) (hno i x hi)
    · rw [List.getElem?_append_right (by omega)] at hi
      by_cases h2 : j < w0.length
      · rw [List.getElem?_append_left h2] at hj
        exact absurd (by rw [← hxy]; exact hD1.2 _ x hi) (hno j y hj)
      · rw [List.getElem?_append_right (by omega)] at hj
        have := hD1.1 _ _ x y hi hj hxy
        omega
  · intro k x hk1
    by_cases h1 : k < w0.length
    · rw [List.getElem?_append_left h1] at hk1
      exact hD.2 k x (hw k x hk1)
    · rw [List.getElem?_append_right (by omega)] at hk1
      rcases hD1.2 _ x hk1 with ⟨j, e, h⟩ | h
      · have hj : j = 0 := by have := (List.getElem?_eq_some_iff.mp h).1; simpa using this
        subst hj
        have h2 : q = x.1 := by
          have := Option.some.inj h
          exact congrArg Prod.fst this
        rw [← h2]
        exact hD.2 _ _ hql
      · exact hA _ (by omega)
/-- new C(): the object, and what its constructor makes -/
theorem g_new {ik ic ci N nC fr lo nc ns : Nat} {C : String} {T : u_T} {ty : Nat → FieldType} {host : String} {y : MethodName} {bytes : ByteArray} {fs : List Value} {S : Type} {out : Nat → S → va_W} (X : FX p m c cc nL s args own G) (hO : va_AO "OysterBeds$Bed" s) (hC : CX G A0 H0) (hgA : ∀ q, (gH G).size ≤ q → gA G q) (hT : CT ci C T N ty) (hP : va_P (gD G) vwCl ws H) (hD : va_D A0 ws) (hS : va_S A0 H0 H locs) (hl : lv_has ls nL lv)
    (hyC : y = ⟨C, "<init>", "()V"⟩) (hCl : C ≠ "java/lang/invoke/MethodHandle" ∧ C ≠ "java/lang/invoke/VarHandle") (hk : Cond.classLink own ik C ∈ WG) (hi : Cond.instantiable C N ∈ WG) (hini : Cond.initialized C ∈ WG) (hlk : Cond.methodLinkNest own ic y host ∈ NWL ∨ Cond.methodLink own ic y ∈ WG) (him : Cond.instanceMethod y ∈ WG) (hco : Cond.code y bytes nC none ∈ WG)
    (hct : ∀ b, Cc l G y bytes nC fr lo nc ns b (.inr (ci, fs)) (out b)) (hfs : ∀ j, j < N → defaultValue (ty j) = vp_V fs j) (hR : fr + 1 ≤ R.frames ∧ 8 + (nC + 11) + lo ≤ R.locals) (hcells : cells + 1 + nc ≤ R.cells) (hslots : slots + N + ns ≤ R.slots) (hrest : (rest.map fun v => v.category).sum ≤ 7)
    (d0 : decode cc pc = .ok (.new ik, 3)) (d3 : decode cc (pc + 3) = .ok (.dup, 1)) (d4 : decode cc (pc + 4) = .ok (.invokespecial ic, 3))
    (kk : ∀ (q : Nat) (a : S) (H1 : Heap) (locs1 : List Loc), va_P (gD G) vwCl (ws ++ out q a) H1 → va_D A0 (ws ++ out q a) → va_S A0 H0 H1 locs1 → W p l e R s m args below meth c H1 locs1 (cells + 1 + nc) (slots + N + ns) Q (F0 m (pc + 7) ls (.ref q :: rest))) : W p l e R s m args below meth c H locs cells slots Q (F0 m pc ls rest) := by
  subst hyC
  have hts := X.2.2.2.2.1
  refine va_new (D := gD G) (C := C) (T := T) (N := N) (own := own) X.1 X.2.1 hts hT.2.1 ty hT.2.2.1 X.2.2.2.1 (hts _ hk) (hts _ hi) (hts _ hini) X.2.2.2.2.2.1 hP hD hS hC.1 hT.1 hfs (by omega) (by omega) d0 (fun q H1 hP hD hS => ?_)
  refine lv_dup X.1 X.2.1 d3 rfl ?_
  have hbl : FrameBlind (va_Pc [.ref q] (CPc G q (.inr (ci, fs)) H1.size)) := fun a U g mk h => ⟨h.1, KK.blind (U := U) (V := U.calling g mk a) rfl h.2.1, va_AO.moved (u := U) (U := U.calling g mk a) (Vm.Alike.refl U.vm) h.2.2.1, h.2.2.2⟩
  have hqD : A0 q := hD.2 ws.length (q, .inr (ci, fs)) (by rw [List.getElem?_append_right (Nat.le_refl _)]; simp)
  have hPq : va_P (gD G) vwCl [(q, .inr (ci, fs))] H1 := by
    intro k x hx
    have hk0 : k = 0 := by have := (List.getElem?_eq_some_iff.mp hx).1; simpa using this
    subst hk0
    cases hx
    exact hP ws.length _ (by rw [List.getElem?_append_right (Nat.le_refl _)]; simp)
  have hpre : ∀ U : State, U.heap = H1 → s.WarmedH U.vm → va_Pc [.ref q] (CPc G q (.inr (ci, fs)) H1.size) ([.ref q] : List Value).toArray U := fun U hU hW =>
    ⟨rfl, X.2.2.2.2.2.warm hW, va_AO.moved hW.alike hO, by rw [hU], by rw [hU]; exact hPq, Nat.le_trans hC.2.2.2 hS.1, hC.2.1 q hqD, hgA, fun x h1 h2 => by rw [hU, hS.2.1 x (Nat.lt_of_lt_of_le h1 hC.2.2.2) (fun z => h2 (hC.2.1 x z))]; exact hC.2.2.1 x h1 h2⟩
  have hpay : ∀ w ∈ Cond.code ⟨C, "<init>", "()V"⟩ bytes nC none :: WG, ∀ (a' : Array Value) (U : State), s.WarmedH U.vm → w.before a' U = true := by
    intro w hw a' U hW
    have hw2 : w ∈ WG := (List.mem_cons.mp hw).elim (fun e => by rw [e]; exact hco) id
    exact word_at hW (good_of_word (wg_good hw2)) (hts w hw2)
  have hdn : ∀ sig, parseMethodDescriptor (⟨C, "<init>", "()V"⟩ : MethodName).desc = some sig → 0 = sig.parameters.length := by
    intro sig h
    have h2 : (parseMethodDescriptor "()V").map (fun d => d.parameters.length) = some 0 := by decide +kernel
    rw [show parseMethodDescriptor "()V" = some sig from h] at h2
    exact (Option.some.inj h2).symm
  have hr : va_Run p l e R s m args below meth c H1 locs (cells + 1) (slots + N) nc ns (F0 m (pc + 3 + 1) ls (.ref q :: .ref q :: rest)) (.ref q :: rest) (CQ G q (.inr (ci, fs)) (out q) H1.size ([.ref q] : List Value).toArray) (va_A [(q, .inr (ci, fs))] H1.size) := by
    rcases hlk with hlk | hlk
    · exact va_runIN (As := []) (rest := .ref q :: rest) (host := host) ⟨X.1, X.2.1, X.2.2.1, X.2.2.2.1, hts⟩ (hct q H1.size) ⟨⟨⟨rfl, rfl, hR.1, hR.2, hpay, List.mem_cons_self⟩, hts _ hco, hts _ hini, hCl, hdn, va_Nw.use rfl (X.2.2.2.2.2.2.1 _ hlk)⟩, rfl, hts _ him⟩ ⟨hbl, hpre⟩ rfl rfl hl.1 rfl (lv_room (by simp only [List.map_cons, List.sum_cons]; exact Nat.add_le_add_left hrest 1)) d4 ⟨hcells, hslots⟩
    · exact va_runI (As := []) (rest := .ref q :: rest) ⟨X.1, X.2.1, X.2.2.1, X.2.2.2.1, hts⟩ (hct q H1.size) ⟨⟨rfl, rfl, hR.1, hR.2, hpay, List.mem_cons_self, hts _ hco, hts _ hini, hCl, hdn, hts _ hlk⟩, rfl, hts _ him⟩ ⟨hbl, hpre⟩ rfl rfl hl.1 rfl (lv_room (by simp only [List.map_cons, List.sum_cons]; exact Nat.add_le_add_left hrest 1)) d4 ⟨hcells, hslots⟩
  have hFc : ∀ x, va_A [(q, .inr (ci, fs))] H1.size x → A0 x := by
    intro x h
    rcases h with ⟨j, e, h⟩ | h
    · have hj : j = 0 := by have := (List.getElem?_eq_some_iff.mp h).1; simpa using this
      subst hj
      have h2 : q = x := congrArg Prod.fst (Option.some.inj h)
      rw [← h2]; exact hqD
    · exact hC.1 x (Nat.le_trans hS.1 h)
  refine va_callv hr hS (fun x _ h => hFc x h) hFc (fun a t H2 locs2 ht hvm _ hB hz1 hk1 hS2 => ?_)
  obtain ⟨hP1, hD1⟩ := hB
  rw [ht] at hP1
  obtain ⟨hP2, hD2⟩ := g_join hC.1 hS.1 hP hD rfl hk1 hP1 hD1
  exact kk q a H2 locs2 hP2 hD2 hS2
end GROW

abbrev yX8_init : MethodName := ⟨"OysterBeds$Text", "<init>", "()V"⟩
theorem d_X8_init_0 : decode prog_10_method_1_code 0 = .ok (.aload_n 0, 1) := by decide +kernel
theorem d_X8_init_1 : decode prog_10_method_1_code 1 = .ok (.invokespecial 3, 3) := by decide +kernel
theorem d_X8_init_4 : decode prog_10_method_1_code 4 = .ok (.aload_n 0, 1) := by decide +kernel
theorem d_X8_init_5 : decode prog_10_method_1_code 5 = .ok (.bipush 80, 2) := by decide +kernel
theorem d_X8_init_7 : decode prog_10_method_1_code 7 = .ok (.newarray .char, 2) := by decide +kernel
theorem d_X8_init_9 : decode prog_10_method_1_code 9 = .ok (.putfield 9, 3) := by decide +kernel
theorem d_X8_init_12 : decode prog_10_method_1_code 12 = .ok (.return_, 1) := by decide +kernel
def out_X8 (G : gT) (b : Nat) (a : Nat → Nat) : va_W := (b, .inr (5, [.ref (a 0), .int 0])) :: ((a 0), zC G 80) :: []
theorem c_X8_init {l : Launch} {G : gT} {b : Nat} (hgA : ∀ q, (gH G).size ≤ q → gA G q) : Cc l G yX8_init prog_10_method_1_code 1 1 12 1 80 b (.inr (5, [.null, .int 0])) (out_X8 G b) := by
  refine Cc.of (by decide) (Nat.le_of_ble_eq_true rfl) rfl ?_
  intro p e s m args below meth c Q X hO hr hlk hnm hC hret ls hP hD hS hl
  have hx := X.1
  have hb := X.2.1
  have hl : lv_has ls 1 [(0, .ref b)] := hl
  obtain ⟨H, hH⟩ : ∃ H, H = s.heap := ⟨_, rfl⟩
  have hP0 := hP
  rw [← hH] at hP
  have hS : va_S (va_A [(b, .inr (5, [.null, .int 0]))] s.heap.size) s.heap H [] := by rw [hH]; exact hS
  have hC : CX G (va_A [(b, .inr (5, [.null, .int 0]))] s.heap.size) s.heap := hC
  suffices hgo : W p l e (rmc 1 12 1 80) s m args below meth c H [] 0 0 Q (F0 m 0 ls []) by rw [hH] at hgo; exact hgo
  refine lv_aload_n hx hb d_X8_init_0 rfl (lv_at hl 0 rfl) ?_
  refine g_init X hl wd_37 ⟨Nat.le_of_ble_eq_true rfl, Nat.le_of_ble_eq_true rfl⟩ d_X8_init_1 ?_
  refine lv_aload_n hx hb d_X8_init_4 rfl (lv_at hl 0 rfl) ?_
  refine lv_bipush (v := (80 : Int32)) hx hb d_X8_init_5 (by decide) ?_
  refine g_newa (k := 0) (N' := 80) (a1 := .inl (fun _ => 0)) .char X hC hP hD hS rfl wd_47 rfl (fun _ => rfl) (by decide) (by decide) (Nat.le_of_ble_eq_true rfl) (Nat.le_of_ble_eq_true rfl) (Nat.le_of_ble_eq_true rfl) d_X8_init_7 (fun q0 H hP hD hS => ?_)
  have hP : va_P (gD G) vwCl ((b, .inr (5, [.null, .int 0])) :: (q0, zC G 80) :: []) H := hP
  have hD : va_D (va_A [(b, .inr (5, [.null, .int 0]))] s.heap.size) ((b, .inr (5, [.null, .int 0])) :: (q0, zC G 80) :: []) := hD
  refine g_putF (C := "OysterBeds$Text") (T := TX8) (N := 2) (ty := tyX8) (idx := 9) 0 0 X ct5 hP hD hS rfl (Nat.le_of_ble_eq_true rfl) wd_38 rfl hnm rfl rfl rfl (Nat.le_of_ble_eq_true rfl) d_X8_init_9 (fun H locs hP hD hS => ?_)
  have hP : va_P (gD G) vwCl ((b, .inr (5, [.ref q0, .int 0])) :: (q0, zC G 80) :: []) H := hP
  have hD : va_D (va_A [(b, .inr (5, [.null, .int 0]))] s.heap.size) ((b, .inr (5, [.ref q0, .int 0])) :: (q0, zC G 80) :: []) := hD
  exact hret H _ _ (fun i => ([q0] : List Nat).getD i 0) hP hD hS 12 d_X8_init_12
abbrev yX9_init : MethodName := ⟨"OysterBeds$Told", "<init>", "()V"⟩
theorem d_X9_init_0 : decode prog_11_method_1_code 0 = .ok (.aload_n 0, 1) := by decide +kernel
theorem d_X9_init_1 : decode prog_11_method_1_code 1 = .ok (.invokespecial 3, 3) := by decide +kernel
theorem d_X9_init_4 : decode prog_11_method_1_code 4 = .ok (.aload_n 0, 1) := by decide +kernel
theorem d_X9_init_5 : decode prog_11_method_1_code 5 = .ok (.bipush 12, 2) := by decide +kernel
theorem d_X9_init_7 : decode prog_11_method_1_code 7 = .ok (.newarray .long, 2) := by decide +kernel
theorem d_X9_init_9 : decode prog_11_method_1_code 9 = .ok (.putfield 9, 3) := by decide +kernel
theorem d_X9_init_12 : decode prog_11_method_1_code 12 = .ok (.return_, 1) := by decide +kernel
def out_X9 (G : gT) (b : Nat) (a : Nat → Nat) : va_W := (b, .inr (6, [.ref (a 0), .int 0])) :: ((a 0), zL G 12) :: []
theorem c_X9_init {l : Launch} {G : gT} {b : Nat} (hgA : ∀ q, (gH G).size ≤ q → gA G q) : Cc l G yX9_init prog_11_method_1_code 1 1 12 1 12 b (.inr (6, [.null, .int 0])) (out_X9 G b) := by
  refine Cc.of (by decide) (Nat.le_of_ble_eq_true rfl) rfl ?_
  intro p e s m args below meth c Q X hO hr hlk hnm hC hret ls hP hD hS hl
  have hx := X.1
  have hb := X.2.1
  have hl : lv_has ls 1 [(0, .ref b)] := hl
  obtain ⟨H, hH⟩ : ∃ H, H = s.heap := ⟨_, rfl⟩
  have hP0 := hP
  rw [← hH] at hP
  have hS : va_S (va_A [(b, .inr (6, [.null, .int 0]))] s.heap.size) s.heap H [] := by rw [hH]; exact hS
  have hC : CX G (va_A [(b, .inr (6, [.null, .int 0]))] s.heap.size) s.heap := hC
  suffices hgo : W p l e (rmc 1 12 1 12) s m args below meth c H [] 0 0 Q (F0 m 0 ls []) by rw [hH] at hgo; exact hgo
  refine lv_aload_n hx hb d_X9_init_0 rfl (lv_at hl 0 rfl) ?_
  refine g_init X hl wd_53 ⟨Nat.le_of_ble_eq_true rfl, Nat.le_of_ble_eq_true rfl⟩ d_X9_init_1 ?_
  refine lv_aload_n hx hb d_X9_init_4 rfl (lv_at hl 0 rfl) ?_
  refine lv_bipush (v := (12 : Int32)) hx hb d_X9_init_5 (by decide) ?_
  refine g_newa (k := 2) (N' := 12) (a1 := .inr (.inl (fun _ => 0))) .long X hC hP hD hS rfl wd_63 rfl (fun _ => rfl) (by decide) (by decide) (Nat.le_of_ble_eq_true rfl) (Nat.le_of_ble_eq_true rfl) (Nat.le_of_ble_eq_true rfl) d_X9_init_7 (fun q0 H hP hD hS => ?_)
  have hP : va_P (gD G) vwCl ((b, .inr (6, [.null, .int 0])) :: (q0, zL G 12) :: []) H := hP
  have hD : va_D (va_A [(b, .inr (6, [.null, .int 0]))] s.heap.size) ((b, .inr (6, [.null, .int 0])) :: (q0, zL G 12) :: []) := hD
  refine g_putF (C := "OysterBeds$Told") (T := TX9) (N := 2) (ty := tyX9) (idx := 9) 0 0 X ct6 hP hD hS rfl (Nat.le_of_ble_eq_true rfl) wd_54 rfl hnm rfl rfl rfl (Nat.le_of_ble_eq_true rfl) d_X9_init_9 (fun H locs hP hD hS => ?_)
  have hP : va_P (gD G) vwCl ((b, .inr (6, [.ref q0, .int 0])) :: (q0, zL G 12) :: []) H := hP
  have hD : va_D (va_A [(b, .inr (6, [.null, .int 0]))] s.heap.size) ((b, .inr (6, [.ref q0, .int 0])) :: (q0, zL G 12) :: []) := hD
  exact hret H _ _ (fun i => ([q0] : List Nat).getD i 0) hP hD hS 12 d_X9_init_12
abbrev yX0_init : MethodName := ⟨"OysterBeds$Bed", "<init>", "()V"⟩
theorem d_X0_init_0 : decode prog_2_method_1_code 0 = .ok (.aload_n 0, 1) := by decide +kernel
theorem d_X0_init_1 : decode prog_2_method_1_code 1 = .ok (.invokespecial 3, 3) := by decide +kernel
theorem d_X0_init_4 : decode prog_2_method_1_code 4 = .ok (.aload_n 0, 1) := by decide +kernel
theorem d_X0_init_5 : decode prog_2_method_1_code 5 = .ok (.bipush 8, 2) := by decide +kernel
theorem d_X0_init_7 : decode prog_2_method_1_code 7 = .ok (.newarray .int, 2) := by decide +kernel
theorem d_X0_init_9 : decode prog_2_method_1_code 9 = .ok (.putfield 9, 3) := by decide +kernel
theorem d_X0_init_12 : decode prog_2_method_1_code 12 = .ok (.aload_n 0, 1) := by decide +kernel
theorem d_X0_init_13 : decode prog_2_method_1_code 13 = .ok (.bipush 8, 2) := by decide +kernel
theorem d_X0_init_15 : decode prog_2_method_1_code 15 = .ok (.newarray .int, 2) := by decide +kernel
theorem d_X0_init_17 : decode prog_2_method_1_code 17 = .ok (.putfield 15, 3) := by decide +kernel
theorem d_X0_init_20 : decode prog_2_method_1_code 20 = .ok (.aload_n 0, 1) := by decide +kernel
theorem d_X0_init_21 : decode prog_2_method_1_code 21 = .ok (.bipush 8, 2) := by decide +kernel
theorem d_X0_init_23 : decode prog_2_method_1_code 23 = .ok (.newarray .int, 2) := by decide +kernel
theorem d_X0_init_25 : decode prog_2_method_1_code 25 = .ok (.putfield 18, 3) := by decide +kernel
theorem d_X0_init_28 : decode prog_2_method_1_code 28 = .ok (.aload_n 0, 1) := by decide +kernel
theorem d_X0_init_29 : decode prog_2_method_1_code 29 = .ok (.bipush 8, 2) := by decide +kernel
theorem d_X0_init_31 : decode prog_2_method_1_code 31 = .ok (.newarray .int, 2) := by decide +kernel
theorem d_X0_init_33 : decode prog_2_method_1_code 33 = .ok (.putfield 21, 3) := by decide +kernel
theorem d_X0_init_36 : decode prog_2_method_1_code 36 = .ok (.aload_n 0, 1) := by decide +kernel
theorem d_X0_init_37 : decode prog_2_method_1_code 37 = .ok (.bipush 8, 2) := by decide +kernel
theorem d_X0_init_39 : decode prog_2_method_1_code 39 = .ok (.newarray .int, 2) := by decide +kernel
theorem d_X0_init_41 : decode prog_2_method_1_code 41 = .ok (.putfield 24, 3) := by decide +kernel
theorem d_X0_init_44 : decode prog_2_method_1_code 44 = .ok (.return_, 1) := by decide +kernel
def out_X0 (G : gT) (b : Nat) (a : Nat → Nat) : va_W := (b, .inr (0, [.ref (a 0), .ref (a 1), .ref (a 2), .ref (a 3), .ref (a 4), .int 0, .int 0, .int 0])) :: ((a 0), zI G 8) :: ((a 1), zI G 8) :: ((a 2), zI G 8) :: ((a 3), zI G 8) :: ((a 4), zI G 8) :: []
theorem c_X0_init {l : Launch} {G : gT} {b : Nat} (hgA : ∀ q, (gH G).size ≤ q → gA G q) : Cc l G yX0_init prog_2_method_1_code 1 1 12 5 40 b (.inr (0, [.null, .null, .null, .null, .null, .int 0, .int 0, .int 0])) (out_X0 G b) := by
  refine Cc.of (by decide) (Nat.le_of_ble_eq_true rfl) rfl ?_
  intro p e s m args below meth c Q X hO hr hlk hnm hC hret ls hP hD hS hl
  have hx := X.1
  have hb := X.2.1
  have hl : lv_has ls 1 [(0, .ref b)] := hl
  obtain ⟨H, hH⟩ : ∃ H, H = s.heap := ⟨_, rfl⟩
  have hP0 := hP
  rw [← hH] at hP
  have hS : va_S (va_A [(b, .inr (0, [.null, .null, .null, .null, .null, .int 0, .int 0, .int 0]))] s.heap.size) s.heap H [] := by rw [hH]; exact hS
  have hC : CX G (va_A [(b, .inr (0, [.null, .null, .null, .null, .null, .int 0, .int 0, .int 0]))] s.heap.size) s.heap := hC
  suffices hgo : W p l e (rmc 1 12 5 40) s m args below meth c H [] 0 0 Q (F0 m 0 ls []) by rw [hH] at hgo; exact hgo
  refine lv_aload_n hx hb d_X0_init_0 rfl (lv_at hl 0 rfl) ?_
  refine g_init X hl wd_69 ⟨Nat.le_of_ble_eq_true rfl, Nat.le_of_ble_eq_true rfl⟩ d_X0_init_1 ?_
  refine lv_aload_n hx hb d_X0_init_4 rfl (lv_at hl 0 rfl) ?_
  refine lv_bipush (v := (8 : Int32)) hx hb d_X0_init_5 (by decide) ?_
  refine g_newa (k := 1) (N' := 8) (a1 := .inl (fun _ => 0)) .int X hC hP hD hS rfl wd_118 rfl (fun _ => rfl) (by decide) (by decide) (Nat.le_of_ble_eq_true rfl) (Nat.le_of_ble_eq_true rfl) (Nat.le_of_ble_eq_true rfl) d_X0_init_7 (fun q0 H hP hD hS => ?_)
  have hP : va_P (gD G) vwCl ((b, .inr (0, [.null, .null, .null, .null, .null, .int 0, .int 0, .int 0])) :: (q0, zI G 8) :: []) H := hP
  have hD : va_D (va_A [(b, .inr (0, [.null, .null, .null, .null, .null, .int 0, .int 0, .int 0]))] s.heap.size) ((b, .inr (0, [.null, .null, .null, .null, .null, .int 0, .int 0, .int 0])) :: (q0, zI G 8) :: []) := hD
  refine g_putF (C := "OysterBeds$Bed") (T := TX0) (N := 8) (ty := tyX0) (idx := 9) 0 0 X ct0 hP hD hS rfl (Nat.le_of_ble_eq_true rfl) wd_70 rfl hnm rfl rfl rfl (Nat.le_of_ble_eq_true rfl) d_X0_init_9 (fun H locs hP hD hS => ?_)
  have hP : va_P (gD G) vwCl ((b, .inr (0, [.ref q0, .null, .null, .null, .null, .int 0, .int 0, .int 0])) :: (q0, zI G 8) :: []) H := hP
  have hD : va_D (va_A [(b, .inr (0, [.null, .null, .null, .null, .null, .int 0, .int 0, .int 0]))] s.heap.size) ((b, .inr (0, [.ref q0, .null, .null, .null, .null, .int 0, .int 0, .int 0])) :: (q0, zI G 8) :: []) := hD
  refine lv_aload_n hx hb d_X0_init_12 rfl (lv_at hl 0 rfl) ?_
  refine lv_bipush (v := (8 : Int32)) hx hb d_X0_init_13 (by decide) ?_
  refine g_newa (k := 1) (N' := 8) (a1 := .inl (fun _ => 0)) .int X hC hP hD hS rfl wd_118 rfl (fun _ => rfl) (by decide) (by decide) (Nat.le_of_ble_eq_true rfl) (Nat.le_of_ble_eq_true rfl) (Nat.le_of_ble_eq_true rfl) d_X0_init_15 (fun q1 H hP hD hS => ?_)
  have hP : va_P (gD G) vwCl ((b, .inr (0, [.ref q0, .null, .null, .null, .null, .int 0, .int 0, .int 0])) :: (q0, zI G 8) :: (q1, zI G 8) :: []) H := hP
  have hD : va_D (va_A [(b, .inr (0, [.null, .null, .null, .null, .null, .int 0, .int 0, .int 0]))] s.heap.size) ((b, .inr (0, [.ref q0, .null, .null, .null, .null, .int 0, .int 0, .int 0])) :: (q0, zI G 8) :: (q1, zI G 8) :: []) := hD
  refine g_putF (C := "OysterBeds$Bed") (T := TX0) (N := 8) (ty := tyX0) (idx := 15) 0 1 X ct0 hP hD hS rfl (Nat.le_of_ble_eq_true rfl) wd_74 rfl hnm rfl rfl rfl (Nat.le_of_ble_eq_true rfl) d_X0_init_17 (fun H locs hP hD hS => ?_)
  have hP : va_P (gD G) vwCl ((b, .inr (0, [.ref q0, .ref q1, .null, .null, .null, .int 0, .int 0, .int 0])) :: (q0, zI G 8) :: (q1, zI G 8) :: []) H := hP
  have hD : va_D (va_A [(b, .inr (0, [.null, .null, .null, .null, .null, .int 0, .int 0, .int 0]))] s.heap.size) ((b, .inr (0, [.ref q0, .ref q1, .null, .null, .null, .int 0, .int 0, .int 0])) :: (q0, zI G 8) :: (q1, zI G 8) :: []) := hD
  refine lv_aload_n hx hb d_X0_init_20 rfl (lv_at hl 0 rfl) ?_
  refine lv_bipush (v := (8 : Int32)) hx hb d_X0_init_21 (by decide) ?_
  refine g_newa (k := 1) (N' := 8) (a1 := .inl (fun _ => 0)) .int X hC hP hD hS rfl wd_118 rfl (fun _ => rfl) (by decide) (by decide) (Nat.le_of_ble_eq_true rfl) (Nat.le_of_ble_eq_true rfl) (Nat.le_of_ble_eq_true rfl) d_X0_init_23 (fun q2 H hP hD hS => ?_)
  have hP : va_P (gD G) vwCl ((b, .inr (0, [.ref q0, .ref q1, .null, .null, .null, .int 0, .int 0, .int 0])) :: (q0, zI G 8) :: (q1, zI G 8) :: (q2, zI G 8) :: []) H := hP
  have hD : va_D (va_A [(b, .inr (0, [.null, .null, .null, .null, .null, .int 0, .int 0, .int 0]))] s.heap.size) ((b, .inr (0, [.ref q0, .ref q1, .null, .null, .null, .int 0, .int 0, .int 0])) :: (q0, zI G 8) :: (q1, zI G 8) :: (q2, zI G 8) :: []) := hD
  refine g_putF (C := "OysterBeds$Bed") (T := TX0) (N := 8) (ty := tyX0) (idx := 18) 0 2 X ct0 hP hD hS rfl (Nat.le_of_ble_eq_true rfl) wd_79 rfl hnm rfl rfl rfl (Nat.le_of_ble_eq_true rfl) d_X0_init_25 (fun H locs hP hD hS => ?_)
  have hP : va_P (gD G) vwCl ((b, .inr (0, [.ref q0, .ref q1, .ref q2, .null, .null, .int 0, .int 0, .int 0])) :: (q0, zI G 8) :: (q1, zI G 8) :: (q2, zI G 8) :: []) H := hP
  have hD : va_D (va_A [(b, .inr (0, [.null, .null, .null, .null, .null, .int 0, .int 0, .int 0]))] s.heap.size) ((b, .inr (0, [.ref q0, .ref q1, .ref q2, .null, .null, .int 0, .int 0, .int 0])) :: (q0, zI G 8) :: (q1, zI G 8) :: (q2, zI G 8) :: []) := hD
  refine lv_aload_n hx hb d_X0_init_28 rfl (lv_at hl 0 rfl) ?_
  refine lv_bipush (v := (8 : Int32)) hx hb d_X0_init_29 (by decide) ?_
  refine g_newa (k := 1) (N' := 8) (a1 := .inl (fun _ => 0)) .int X hC hP hD hS rfl wd_118 rfl (fun _ => rfl) (by decide) (by decide) (Nat.le_of_ble_eq_true rfl) (Nat.le_of_ble_eq_true rfl) (Nat.le_of_ble_eq_true rfl) d_X0_init_31 (fun q3 H hP hD hS => ?_)
  have hP : va_P (gD G) vwCl ((b, .inr (0, [.ref q0, .ref q1, .ref q2, .null, .null, .int 0, .int 0, .int 0])) :: (q0, zI G 8) :: (q1, zI G 8) :: (q2, zI G 8) :: (q3, zI G 8) :: []) H := hP
  have hD : va_D (va_A [(b, .inr (0, [.null, .null, .null, .null, .null, .int 0, .int 0, .int 0]))] s.heap.size) ((b, .inr (0, [.ref q0, .ref q1, .ref q2, .null, .null, .int 0, .int 0, .int 0])) :: (q0, zI G 8) :: (q1, zI G 8) :: (q2, zI G 8) :: (q3, zI G 8) :: []) := hD
  refine g_putF (C := "OysterBeds$Bed") (T := TX0) (N := 8) (ty := tyX0) (idx := 21) 0 3 X ct0 hP hD hS rfl (Nat.le_of_ble_eq_true rfl) wd_83 rfl hnm rfl rfl rfl (Nat.le_of_ble_eq_true rfl) d_X0_init_33 (fun H locs hP hD hS => ?_)
  have hP : va_P (gD G) vwCl ((b, .inr (0, [.ref q0, .ref q1, .ref q2, .ref q3, .null, .int 0, .int 0, .int 0])) :: (q0, zI G 8) :: (q1, zI G 8) :: (q2, zI G 8) :: (q3, zI G 8) :: []) H := hP
  have hD : va_D (va_A [(b, .inr (0, [.null, .null, .null, .null, .null, .int 0, .int 0, .int 0]))] s.heap.size) ((b, .inr (0, [.ref q0, .ref q1, .ref q2, .ref q3, .null, .int 0, .int 0, .int 0])) :: (q0, zI G 8) :: (q1, zI G 8) :: (q2, zI G 8) :: (q3, zI G 8) :: []) := hD
  refine lv_aload_n hx hb d_X0_init_36 rfl (lv_at hl 0 rfl) ?_
  refine lv_bipush (v := (8 : Int32)) hx hb d_X0_init_37 (by decide) ?_
  refine g_newa (k := 1) (N' := 8) (a1 := .inl (fun _ => 0)) .int X hC hP hD hS rfl wd_118 rfl (fun _ => rfl) (by decide) (by decide) (Nat.le_of_ble_eq_true rfl) (Nat.le_of_ble_eq_true rfl) (Nat.le_of_ble_eq_true rfl) d_X0_init_39 (fun q4 H hP hD hS => ?_)
  have hP : va_P (gD G) vwCl ((b, .inr (0, [.ref q0, .ref q1, .ref q2, .ref q3, .null, .int 0, .int 0, .int 0])) :: (q0, zI G 8) :: (q1, zI G 8) :: (q2, zI G 8) :: (q3, zI G 8) :: (q4, zI G 8) :: []) H := hP
  have hD : va_D (va_A [(b, .inr (0, [.null, .null, .null, .null, .null, .int 0, .int 0, .int 0]))] s.heap.size) ((b, .inr (0, [.ref q0, .ref q1, .ref q2, .ref q3, .null, .int 0, .int 0, .int 0])) :: (q0, zI G 8) :: (q1, zI G 8) :: (q2, zI G 8) :: (q3, zI G 8) :: (q4, zI G 8) :: []) := hD
  refine g_putF (C := "OysterBeds$Bed") (T := TX0) (N := 8) (ty := tyX0) (idx := 24) 0 4 X ct0 hP hD hS rfl (Nat.le_of_ble_eq_true rfl) wd_86 rfl hnm rfl rfl rfl (Nat.le_of_ble_eq_true rfl) d_X0_init_41 (fun H locs hP hD hS => ?_)
  have hP : va_P (gD G) vwCl ((b, .inr (0, [.ref q0, .ref q1, .ref q2, .ref q3, .ref q4, .int 0, .int 0, .int 0])) :: (q0, zI G 8) :: (q1, zI G 8) :: (q2, zI G 8) :: (q3, zI G 8) :: (q4, zI G 8) :: []) H := hP
  have hD : va_D (va_A [(b, .inr (0, [.null, .null, .null, .null, .null, .int 0, .int 0, .int 0]))] s.heap.size) ((b, .inr (0, [.ref q0, .ref q1, .ref q2, .ref q3, .ref q4, .int 0, .int 0, .int 0])) :: (q0, zI G 8) :: (q1, zI G 8) :: (q2, zI G 8) :: (q3, zI G 8) :: (q4, zI G 8) :: []) := hD
  exact hret H _ _ (fun i => ([q0, q1, q2, q3, q4] : List Nat).getD i 0) hP hD hS 44 d_X0_init_44
abbrev yX7_init : MethodName := ⟨"OysterBeds$Sightings", "<init>", "()V"⟩
theorem d_X7_init_0 : decode prog_9_method_1_code 0 = .ok (.aload_n 0, 1) := by decide +kernel
theorem d_X7_init_1 : decode prog_9_method_1_code 1 = .ok (.invokespecial 3, 3) := by decide +kernel
theorem d_X7_init_4 : decode prog_9_method_1_code 4 = .ok (.aload_n 0, 1) := by decide +kernel
theorem d_X7_init_5 : decode prog_9_method_1_code 5 = .ok (.bipush 10, 2) := by decide +kernel
theorem d_X7_init_7 : decode prog_9_method_1_code 7 = .ok (.newarray .int, 2) := by decide +kernel
theorem d_X7_init_9 : decode prog_9_method_1_code 9 = .ok (.putfield 9, 3) := by decide +kernel
theorem d_X7_init_12 : decode prog_9_method_1_code 12 = .ok (.aload_n 0, 1) := by decide +kernel
theorem d_X7_init_13 : decode prog_9_method_1_code 13 = .ok (.bipush 10, 2) := by decide +kernel
theorem d_X7_init_15 : decode prog_9_method_1_code 15 = .ok (.newarray .int, 2) := by decide +kernel
theorem d_X7_init_17 : decode prog_9_method_1_code 17 = .ok (.putfield 15, 3) := by decide +kernel
theorem d_X7_init_20 : decode prog_9_method_1_code 20 = .ok (.aload_n 0, 1) := by decide +kernel
theorem d_X7_init_21 : decode prog_9_method_1_code 21 = .ok (.bipush 10, 2) := by decide +kernel
theorem d_X7_init_23 : decode prog_9_method_1_code 23 = .ok (.newarray .int, 2) := by decide +kernel
theorem d_X7_init_25 : decode prog_9_method_1_code 25 = .ok (.putfield 18, 3) := by decide +kernel
theorem d_X7_init_28 : decode prog_9_method_1_code 28 = .ok (.return_, 1) := by decide +kernel
def out_X7 (G : gT) (b : Nat) (a : Nat → Nat) : va_W := (b, .inr (4, [.ref (a 0), .ref (a 1), .ref (a 2), .int 0])) :: ((a 0), zI G 10) :: ((a 1), zI G 10) :: ((a 2), zI G 10) :: []
theorem c_X7_init {l : Launch} {G : gT} {b : Nat} (hgA : ∀ q, (gH G).size ≤ q → gA G q) : Cc l G yX7_init prog_9_method_1_code 1 1 12 3 30 b (.inr (4, [.null, .null, .null, .int 0])) (out_X7 G b) := by
  refine Cc.of (by decide) (Nat.le_of_ble_eq_true rfl) rfl ?_
  intro p e s m args below meth c Q X hO hr hlk hnm hC hret ls hP hD hS hl
  have hx := X.1
  have hb := X.2.1
  have hl : lv_has ls 1 [(0, .ref b)] := hl
  obtain ⟨H, hH⟩ : ∃ H, H = s.heap := ⟨_, rfl⟩
  have hP0 := hP
  rw [← hH] at hP
  have hS : va_S (va_A [(b, .inr (4, [.null, .null, .null, .int 0]))] s.heap.size) s.heap H [] := by rw [hH]; exact hS
  have hC : CX G (va_A [(b, .inr (4, [.null, .null, .null, .int 0]))] s.heap.size) s.heap := hC
  suffices hgo : W p l e (rmc 1 12 3 30) s m args below meth c H [] 0 0 Q (F0 m 0 ls []) by rw [hH] at hgo; exact hgo
  refine lv_aload_n hx hb d_X7_init_0 rfl (lv_at hl 0 rfl) ?_
  refine g_init X hl wd_151 ⟨Nat.le_of_ble_eq_true rfl, Nat.le_of_ble_eq_true rfl⟩ d_X7_init_1 ?_
  refine lv_aload_n hx hb d_X7_init_4 rfl (lv_at hl 0 rfl) ?_
  refine lv_bipush (v := (10 : Int32)) hx hb d_X7_init_5 (by decide) ?_
  refine g_newa (k := 1) (N' := 10) (a1 := .inl (fun _ => 0)) .int X hC hP hD hS rfl wd_118 rfl (fun _ => rfl) (by decide) (by decide) (Nat.le_of_ble_eq_true rfl) (Nat.le_of_ble_eq_true rfl) (Nat.le_of_ble_eq_true rfl) d_X7_init_7 (fun q0 H hP hD hS => ?_)
  have hP : va_P (gD G) vwCl ((b, .inr (4, [.null, .null, .null, .int 0])) :: (q0, zI G 10) :: []) H := hP
  have hD : va_D (va_A [(b, .inr (4, [.null, .null, .null, .int 0]))] s.heap.size) ((b, .inr (4, [.null, .null, .null, .int 0])) :: (q0, zI G 10) :: []) := hD
  refine g_putF (C := "OysterBeds$Sightings") (T := TX7) (N := 4) (ty := tyX7) (idx := 9) 0 0 X ct4 hP hD hS rfl (Nat.le_of_ble_eq_true rfl) wd_152 rfl hnm rfl rfl rfl (Nat.le_of_ble_eq_true rfl) d_X7_init_9 (fun H locs hP hD hS => ?_)
  have hP : va_P (gD G) vwCl ((b, .inr (4, [.ref q0, .null, .null, .int 0])) :: (q0, zI G 10) :: []) H := hP
  have hD : va_D (va_A [(b, .inr (4, [.null, .null, .null, .int 0]))] s.heap.size) ((b, .inr (4, [.ref q0, .null, .null, .int 0])) :: (q0, zI G 10) :: []) := hD
  refine lv_aload_n hx hb d_X7_init_12 rfl (lv_at hl 0 rfl) ?_
  refine lv_bipush (v := (10 : Int32)) hx hb d_X7_init_13 (by decide) ?_
  refine g_newa (k := 1) (N' := 10) (a1 := .inl (fun _ => 0)) .int X hC hP hD hS rfl wd_118 rfl (fun _ => rfl) (by decide) (by decide) (Nat.le_of_ble_eq_true rfl) (Nat.le_of_ble_eq_true rfl) (Nat.le_of_ble_eq_true rfl) d_X7_init_15 (fun q1 H hP hD hS => ?_)
  have hP : va_P (gD G) vwCl ((b, .inr (4, [.ref q0, .null, .null, .int 0])) :: (q0, zI G 10) :: (q1, zI G 10) :: []) H := hP
  have hD : va_D (va_A [(b, .inr (4, [.null, .null, .null, .int 0]))] s.heap.size) ((b, .inr (4, [.ref q0, .null, .null, .int 0])) :: (q0, zI G 10) :: (q1, zI G 10) :: []) := hD
  refine g_putF (C := "OysterBeds$Sightings") (T := TX7) (N := 4) (ty := tyX7) (idx := 15) 0 1 X ct4 hP hD hS rfl (Nat.le_of_ble_eq_true rfl) wd_153 rfl hnm rfl rfl rfl (Nat.le_of_ble_eq_true rfl) d_X7_init_17 (fun H locs hP hD hS => ?_)
  have hP : va_P (gD G) vwCl ((b, .inr (4, [.ref q0, .ref q1, .null, .int 0])) :: (q0, zI G 10) :: (q1, zI G 10) :: []) H := hP
  have hD : va_D (va_A [(b, .inr (4, [.null, .null, .null, .int 0]))] s.heap.size) ((b, .inr (4, [.ref q0, .ref q1, .null, .int 0])) :: (q0, zI G 10) :: (q1, zI G 10) :: []) := hD
  refine lv_aload_n hx hb d_X7_init_20 rfl (lv_at hl 0 rfl) ?_
  refine lv_bipush (v := (10 : Int32)) hx hb d_X7_init_21 (by decide) ?_
  refine g_newa (k := 1) (N' := 10) (a1 := .inl (fun _ => 0)) .int X hC hP hD hS rfl wd_118 rfl (fun _ => rfl) (by decide) (by decide) (Nat.le_of_ble_eq_true rfl) (Nat.le_of_ble_eq_true rfl) (Nat.le_of_ble_eq_true rfl) d_X7_init_23 (fun q2 H hP hD hS => ?_)
  have hP : va_P (gD G) vwCl ((b, .inr (4, [.ref q0, .ref q1, .null, .int 0])) :: (q0, zI G 10) :: (q1, zI G 10) :: (q2, zI G 10) :: []) H := hP
  have hD : va_D (va_A [(b, .inr (4, [.null, .null, .null, .int 0]))] s.heap.size) ((b, .inr (4, [.ref q0, .ref q1, .null, .int 0])) :: (q0, zI G 10) :: (q1, zI G 10) :: (q2, zI G 10) :: []) := hD
  refine g_putF (C := "OysterBeds$Sightings") (T := TX7) (N := 4) (ty := tyX7) (idx := 18) 0 2 X ct4 hP hD hS rfl (Nat.le_of_ble_eq_true rfl) wd_154 rfl hnm rfl rfl rfl (Nat.le_of_ble_eq_true rfl) d_X7_init_25 (fun H locs hP hD hS => ?_)
  have hP : va_P (gD G) vwCl ((b, .inr (4, [.ref q0, .ref q1, .ref q2, .int 0])) :: (q0, zI G 10) :: (q1, zI G 10) :: (q2, zI G 10) :: []) H := hP
  have hD : va_D (va_A [(b, .inr (4, [.null, .null, .null, .int 0]))] s.heap.size) ((b, .inr (4, [.ref q0, .ref q1, .ref q2, .int 0])) :: (q0, zI G 10) :: (q1, zI G 10) :: (q2, zI G 10) :: []) := hD
  exact hret H _ _ (fun i => ([q0, q1, q2] : List Nat).getD i 0) hP hD hS 28 d_X7_init_28
abbrev yX4_init : MethodName := ⟨"OysterBeds$Hearsay", "<init>", "()V"⟩
theorem d_X4_init_0 : decode prog_6_method_1_code 0 = .ok (.aload_n 0, 1) := by decide +kernel
theorem d_X4_init_1 : decode prog_6_method_1_code 1 = .ok (.invokespecial 3, 3) := by decide +kernel
theorem d_X4_init_4 : decode prog_6_method_1_code 4 = .ok (.aload_n 0, 1) := by decide +kernel
theorem d_X4_init_5 : decode prog_6_method_1_code 5 = .ok (.bipush 12, 2) := by decide +kernel
theorem d_X4_init_7 : decode prog_6_method_1_code 7 = .ok (.newarray .int, 2) := by decide +kernel
theorem d_X4_init_9 : decode prog_6_method_1_code 9 = .ok (.putfield 9, 3) := by decide +kernel
theorem d_X4_init_12 : decode prog_6_method_1_code 12 = .ok (.aload_n 0, 1) := by decide +kernel
theorem d_X4_init_13 : decode prog_6_method_1_code 13 = .ok (.bipush 12, 2) := by decide +kernel
theorem d_X4_init_15 : decode prog_6_method_1_code 15 = .ok (.newarray .int, 2) := by decide +kernel
theorem d_X4_init_17 : decode prog_6_method_1_code 17 = .ok (.putfield 15, 3) := by decide +kernel
theorem d_X4_init_20 : decode prog_6_method_1_code 20 = .ok (.return_, 1) := by decide +kernel
def out_X4 (G : gT) (b : Nat) (a : Nat → Nat) : va_W := (b, .inr (1, [.ref (a 0), .ref (a 1), .int 0])) :: ((a 0), zI G 12) :: ((a 1), zI G 12) :: []
theorem c_X4_init {l : Launch} {G : gT} {b : Nat} (hgA : ∀ q, (gH G).size ≤ q → gA G q) : Cc l G yX4_init prog_6_method_1_code 1 1 12 2 24 b (.inr (1, [.null, .null, .int 0])) (out_X4 G b) := by
  refine Cc.of (by decide) (Nat.le_of_ble_eq_true rfl) rfl ?_
  intro p e s m args below meth c Q X hO hr hlk hnm hC hret ls hP hD hS hl
  have hx := X.1
  have hb := X.2.1
  have hl : lv_has ls 1 [(0, .ref b)] := hl
  obtain ⟨H, hH⟩ : ∃ H, H = s.heap := ⟨_, rfl⟩
  have hP0 := hP
  rw [← hH] at hP
  have hS : va_S (va_A [(b, .inr (1, [.null, .null, .int 0]))] s.heap.size) s.heap H [] := by rw [hH]; exact hS
  have hC : CX G (va_A [(b, .inr (1, [.null, .null, .int 0]))] s.heap.size) s.heap := hC
  suffices hgo : W p l e (rmc 1 12 2 24) s m args below meth c H [] 0 0 Q (F0 m 0 ls []) by rw [hH] at hgo; exact hgo
  refine lv_aload_n hx hb d_X4_init_0 rfl (lv_at hl 0 rfl) ?_
  refine g_init X hl wd_171 ⟨Nat.le_of_ble_eq_true rfl, Nat.le_of_ble_eq_true rfl⟩ d_X4_init_1 ?_
  refine lv_aload_n hx hb d_X4_init_4 rfl (lv_at hl 0 rfl) ?_
  refine lv_bipush (v := (12 : Int32)) hx hb d_X4_init_5 (by decide) ?_
  refine g_newa (k := 1) (N' := 12) (a1 := .inl (fun _ => 0)) .int X hC hP hD hS rfl wd_118 rfl (fun _ => rfl) (by decide) (by decide) (Nat.le_of_ble_eq_true rfl) (Nat.le_of_ble_eq_true rfl) (Nat.le_of_ble_eq_true rfl) d_X4_init_7 (fun q0 H hP hD hS => ?_)
  have hP : va_P (gD G) vwCl ((b, .inr (1, [.null, .null, .int 0])) :: (q0, zI G 12) :: []) H := hP
  have hD : va_D (va_A [(b, .inr (1, [.null, .null, .int 0]))] s.heap.size) ((b, .inr (1, [.null, .null, .int 0])) :: (q0, zI G 12) :: []) := hD
  refine g_putF (C := "OysterBeds$Hearsay") (T := TX4) (N := 3) (ty := tyX4) (idx := 9) 0 0 X ct1 hP hD hS rfl (Nat.le_of_ble_eq_true rfl) wd_172 rfl hnm rfl rfl rfl (Nat.le_of_ble_eq_true rfl) d_X4_init_9 (fun H locs hP hD hS => ?_)
  have hP : va_P (gD G) vwCl ((b, .inr (1, [.ref q0, .null, .int 0])) :: (q0, zI G 12) :: []) H := hP
  have hD : va_D (va_A [(b, .inr (1, [.null, .null, .int 0]))] s.heap.size) ((b, .inr (1, [.ref q0, .null, .int 0])) :: (q0, zI G 12) :: []) := hD
  refine lv_aload_n hx hb d_X4_init_12 rfl (lv_at hl 0 rfl) ?_
  refine lv_bipush (v := (12 : Int32)) hx hb d_X4_init_13 (by decide) ?_
  refine g_newa (k := 1) (N' := 12) (a1 := .inl (fun _ => 0)) .int X hC hP hD hS rfl wd_118 rfl (fun _ => rfl) (by decide) (by decide) (Nat.le_of_ble_eq_true rfl) (Nat.le_of_ble_eq_true rfl) (Nat.le_of_ble_eq_true rfl) d_X4_init_15 (fun q1 H hP hD hS => ?_)
  have hP : va_P (gD G) vwCl ((b, .inr (1, [.ref q0, .null, .int 0])) :: (q0, zI G 12) :: (q1, zI G 12) :: []) H := hP
  have hD : va_D (va_A [(b, .inr (1, [.null, .null, .int 0]))] s.heap.size) ((b, .inr (1, [.ref q0, .null, .int 0])) :: (q0, zI G 12) :: (q1, zI G 12) :: []) := hD
  refine g_putF (C := "OysterBeds$Hearsay") (T := TX4) (N := 3) (ty := tyX4) (idx := 15) 0 1 X ct1 hP hD hS rfl (Nat.le_of_ble_eq_true rfl) wd_173 rfl hnm rfl rfl rfl (Nat.le_of_ble_eq_true rfl) d_X4_init_17 (fun H locs hP hD hS => ?_)
  have hP : va_P (gD G) vwCl ((b, .inr (1, [.ref q0, .ref q1, .int 0])) :: (q0, zI G 12) :: (q1, zI G 12) :: []) H := hP
  have hD : va_D (va_A [(b, .inr (1, [.null, .null, .int 0]))] s.heap.size) ((b, .inr (1, [.ref q0, .ref q1, .int 0])) :: (q0, zI G 12) :: (q1, zI G 12) :: []) := hD
  exact hret H _ _ (fun i => ([q0, q1] : List Nat).getD i 0) hP hD hS 20 d_X4_init_20
abbrev yX6_init : MethodName := ⟨"OysterBeds$Past", "<init>", "()V"⟩
theorem d_X6_init_0 : decode prog_8_method_1_code 0 = .ok (.aload_n 0, 1) := by decide +kernel
theorem d_X6_init_1 : decode prog_8_method_1_code 1 = .ok (.invokespecial 3, 3) := by decide +kernel
theorem d_X6_init_4 : decode prog_8_method_1_code 4 = .ok (.aload_n 0, 1) := by decide +kernel
theorem d_X6_init_5 : decode prog_8_method_1_code 5 = .ok (.bipush 15, 2) := by decide +kernel
theorem d_X6_init_7 : decode prog_8_method_1_code 7 = .ok (.anewarray 9, 3) := by decide +kernel
theorem d_X6_init_10 : decode prog_8_method_1_code 10 = .ok (.putfield 11, 3) := by decide +kernel
theorem d_X6_init_13 : decode prog_8_method_1_code 13 = .ok (.aload_n 0, 1) := by decide +kernel
theorem d_X6_init_14 : decode prog_8_method_1_code 14 = .ok (.iconst 3, 1) := by decide +kernel
theorem d_X6_init_15 : decode prog_8_method_1_code 15 = .ok (.anewarray 9, 3) := by decide +kernel
theorem d_X6_init_18 : decode prog_8_method_1_code 18 = .ok (.putfield 17, 3) := by decide +kernel
theorem d_X6_init_21 : decode prog_8_method_1_code 21 = .ok (.aload_n 0, 1) := by decide +kernel
theorem d_X6_init_22 : decode prog_8_method_1_code 22 = .ok (.iconst 3, 1) := by decide +kernel
theorem d_X6_init_23 : decode prog_8_method_1_code 23 = .ok (.newarray .boolean, 2) := by decide +kernel
theorem d_X6_init_25 : decode prog_8_method_1_code 25 = .ok (.putfield 20, 3) := by decide +kernel
theorem d_X6_init_28 : decode prog_8_method_1_code 28 = .ok (.iconst 0, 1) := by decide +kernel
theorem d_X6_init_29 : decode prog_8_method_1_code 29 = .ok (.istore_n 1, 1) := by decide +kernel
theorem d_X6_init_30 : decode prog_8_method_1_code 30 = .ok (.iload_n 1, 1) := by decide +kernel
theorem d_X6_init_31 : decode prog_8_method_1_code 31 = .ok (.bipush 15, 2) := by decide +kernel
theorem d_X6_init_33 : decode prog_8_method_1_code 33 = .ok (.if_icmp .ge 22, 3) := by decide +kernel
theorem d_X6_init_36 : decode prog_8_method_1_code 36 = .ok (.aload_n 0, 1) := by decide +kernel
theorem d_X6_init_37 : decode prog_8_method_1_code 37 = .ok (.getfield 11, 3) := by decide +kernel
theorem d_X6_init_40 : decode prog_8_method_1_code 40 = .ok (.iload_n 1, 1) := by decide +kernel
theorem d_X6_init_41 : decode prog_8_method_1_code 41 = .ok (.new 9, 3) := by decide +kernel
theorem d_X6_init_44 : decode prog_8_method_1_code 44 = .ok (.dup, 1) := by decide +kernel
theorem d_X6_init_45 : decode prog_8_method_1_code 45 = .ok (.invokespecial 24, 3) := by decide +kernel
theorem d_X6_init_48 : decode prog_8_method_1_code 48 = .ok (.aastore, 1) := by decide +kernel
theorem d_X6_init_49 : decode prog_8_method_1_code 49 = .ok (.iinc 1 1, 3) := by decide +kernel
theorem d_X6_init_52 : decode prog_8_method_1_code 52 = .ok (.goto (-22), 3) := by decide +kernel
theorem d_X6_init_55 : decode prog_8_method_1_code 55 = .ok (.iconst 0, 1) := by decide +kernel
theorem d_X6_init_56 : decode prog_8_method_1_code 56 = .ok (.istore_n 1, 1) := by decide +kernel
theorem d_X6_init_57 : decode prog_8_method_1_code 57 = .ok (.iload_n 1, 1) := by decide +kernel
theorem d_X6_init_58 : decode prog_8_method_1_code 58 = .ok (.iconst 3, 1) := by decide +kernel
theorem d_X6_init_59 : decode prog_8_method_1_code 59 = .ok (.if_icmp .ge 22, 3) := by decide +kernel
theorem d_X6_init_62 : decode prog_8_method_1_code 62 = .ok (.aload_n 0, 1) := by decide +kernel
theorem d_X6_init_63 : decode prog_8_method_1_code 63 = .ok (.getfield 17, 3) := by decide +kernel
theorem d_X6_init_66 : decode prog_8_method_1_code 66 = .ok (.iload_n 1, 1) := by decide +kernel
theorem d_X6_init_67 : decode prog_8_method_1_code 67 = .ok (.new 9, 3) := by decide +kernel
theorem d_X6_init_70 : decode prog_8_method_1_code 70 = .ok (.dup, 1) := by decide +kernel
theorem d_X6_init_71 : decode prog_8_method_1_code 71 = .ok (.invokespecial 24, 3) := by decide +kernel
theorem d_X6_init_74 : decode prog_8_method_1_code 74 = .ok (.aastore, 1) := by decide +kernel
theorem d_X6_init_75 : decode prog_8_method_1_code 75 = .ok (.iinc 1 1, 3) := by decide +kernel
theorem d_X6_init_78 : decode prog_8_method_1_code 78 = .ok (.goto (-21), 3) := by decide +kernel
theorem d_X6_init_81 : decode prog_8_method_1_code 81 = .ok (.return_, 1) := by decide +kernel
def out_X6 (G : gT) (b : Nat) (a : (Nat → Nat) × (Nat → Nat × (Nat → Nat))) : va_W := (b, .inr (3, [.ref (a.1 0), .int 0, .int 0, .ref (a.1 1), .ref (a.1 2)])) :: ((a.1 0), zB G 15 (va_up (va_up (va_up (va_up (va_up (va_up (va_up (va_up (va_up (va_up (va_up (va_up (va_up (va_up (va_up (fun _ => none) 0 (some ((a.2 0).1))) 1 (some ((a.2 1).1))) 2 (some ((a.2 2).1))) 3 (some ((a.2 3).1))) 4 (some ((a.2 4).1))) 5 (some ((a.2 5).1))) 6 (some ((a.2 6).1))) 7 (some ((a.2 7).1))) 8 (some ((a.2 8).1))) 9 (some ((a.2 9).1))) 10 (some ((a.2 10).1))) 11 (some ((a.2 11).1))) 12 (some ((a.2 12).1))) 13 (some ((a.2 13).1))) 14 (some ((a.2 14).1)))) :: ((a.1 1), zB G 3 (va_up (va_up (va_up (fun _ => none) 0 (some ((a.2 15).1))) 1 (some ((a.2 16).1))) 2 (some ((a.2 17).1)))) :: ((a.1 2), zZ G 3) :: (((((((((((((((((out_X0 G ((a.2 0).1) ((a.2 0).2) ++ out_X0 G ((a.2 1).1) ((a.2 1).2)) ++ out_X0 G ((a.2 2).1) ((a.2 2).2)) ++ out_X0 G ((a.2 3).1) ((a.2 3).2)) ++ out_X0 G ((a.2 4).1) ((a.2 4).2)) ++ out_X0 G ((a.2 5).1) ((a.2 5).2)) ++ out_X0 G ((a.2 6).1) ((a.2 6).2)) ++ out_X0 G ((a.2 7).1) ((a.2 7).2)) ++ out_X0 G ((a.2 8).1) ((a.2 8).2)) ++ out_X0 G ((a.2 9).1) ((a.2 9).2)) ++ out_X0 G ((a.2 10).1) ((a.2 10).2)) ++ out_X0 G ((a.2 11).1) ((a.2 11).2)) ++ out_X0 G ((a.2 12).1) ((a.2 12).2)) ++ out_X0 G ((a.2 13).1) ((a.2 13).2)) ++ out_X0 G ((a.2 14).1) ((a.2 14).2)) ++ out_X0 G ((a.2 15).1) ((a.2 15).2)) ++ out_X0 G ((a.2 16).1) ((a.2 16).2)) ++ out_X0 G ((a.2 17).1) ((a.2 17).2))
set_option maxHeartbeats 40000000 in
theorem c_X6_init {l : Launch} {G : gT} {b : Nat} (hgA : ∀ q, (gH G).size ≤ q → gA G q) : Cc l G yX6_init prog_8_method_1_code 2 2 32 111 885 b (.inr (3, [.null, .int 0, .int 0, .null, .null])) (out_X6 G b) := by
  refine Cc.of (by decide) (Nat.le_of_ble_eq_true rfl) rfl ?_
  intro p e s m args below meth c Q X hO hr hlk hnm hC hret ls hP hD hS hl
  have hx := X.1
  have hb := X.2.1
  have hl : lv_has ls 2 [(0, .ref b)] := hl
  obtain ⟨H, hH⟩ : ∃ H, H = s.heap := ⟨_, rfl⟩
  have hP0 := hP
  rw [← hH] at hP
  have hS : va_S (va_A [(b, .inr (3, [.null, .int 0, .int 0, .null, .null]))] s.heap.size) s.heap H [] := by rw [hH]; exact hS
  have hC : CX G (va_A [(b, .inr (3, [.null, .int 0, .int 0, .null, .null]))] s.heap.size) s.heap := hC
  suffices hgo : W p l e (rmc 2 32 111 885) s m args below meth c H [] 0 0 Q (F0 m 0 ls []) by rw [hH] at hgo; exact hgo
  refine lv_aload_n hx hb d_X6_init_0 rfl (lv_at hl 0 rfl) ?_
  refine g_init X hl wd_124 ⟨Nat.le_of_ble_eq_true rfl, Nat.le_of_ble_eq_true rfl⟩ d_X6_init_1 ?_
  refine lv_aload_n hx hb d_X6_init_4 rfl (lv_at hl 0 rfl) ?_
  refine lv_bipush (v := (15 : Int32)) hx hb d_X6_init_5 (by decide) ?_
  refine g_newq (N' := 15) X hO hC hP hD hS wd_125 (by decide) (by decide) (Nat.le_of_ble_eq_true rfl) (Nat.le_of_ble_eq_true rfl) (Nat.le_of_ble_eq_true rfl) d_X6_init_7 (fun q0 H hP hD hS => ?_)
  have hP : va_P (gD G) vwCl ((b, .inr (3, [.null, .int 0, .int 0, .null, .null])) :: (q0, zB G 15 (fun _ => none)) :: []) H := hP
  have hD : va_D (va_A [(b, .inr (3, [.null, .int 0, .int 0, .null, .null]))] s.heap.size) ((b, .inr (3, [.null, .int 0, .int 0, .null, .null])) :: (q0, zB G 15 (fun _ => none)) :: []) := hD
  refine g_putF (C := "OysterBeds$Past") (T := TX6) (N := 5) (ty := tyX6) (idx := 11) 0 0 X ct3 hP hD hS rfl (Nat.le_of_ble_eq_true rfl) wd_128 rfl hnm rfl rfl rfl (Nat.le_of_ble_eq_true rfl) d_X6_init_10 (fun H locs hP hD hS => ?_)
  have hP : va_P (gD G) vwCl ((b, .inr (3, [.ref q0, .int 0, .int 0, .null, .null])) :: (q0, zB G 15 (fun _ => none)) :: []) H := hP
  have hD : va_D (va_A [(b, .inr (3, [.null, .int 0, .int 0, .null, .null]))] s.heap.size) ((b, .inr (3, [.ref q0, .int 0, .int 0, .null, .null])) :: (q0, zB G 15 (fun _ => none)) :: []) := hD
  refine lv_aload_n hx hb d_X6_init_13 rfl (lv_at hl 0 rfl) ?_
  refine lv_iconst (v := (3 : Int32)) hx hb d_X6_init_14 (by decide) ?_
  refine g_newq (N' := 3) X hO hC hP hD hS wd_125 (by decide) (by decide) (Nat.le_of_ble_eq_true rfl) (Nat.le_of_ble_eq_true rfl) (Nat.le_of_ble_eq_true rfl) d_X6_init_15 (fun q1 H hP hD hS => ?_)
  have hP : va_P (gD G) vwCl ((b, .inr (3, [.ref q0, .int 0, .int 0, .null, .null])) :: (q0, zB G 15 (fun _ => none)) :: (q1, zB G 3 (fun _ => none)) :: []) H := hP
  have hD : va_D (va_A [(b, .inr (3, [.null, .int 0, .int 0, .null, .null]))] s.heap.size) ((b, .inr (3, [.ref q0, .int 0, .int 0, .null, .null])) :: (q0, zB G 15 (fun _ => none)) :: (q1, zB G 3 (fun _ => none)) :: []) := hD
  refine g_putF (C := "OysterBeds$Past") (T := TX6) (N := 5) (ty := tyX6) (idx := 17) 0 3 X ct3 hP hD hS rfl (Nat.le_of_ble_eq_true rfl) wd_132 rfl hnm rfl rfl rfl (Nat.le_of_ble_eq_true rfl) d_X6_init_18 (fun H locs hP hD hS => ?_)
  have hP : va_P (gD G) vwCl ((b, .inr (3, [.ref q0, .int 0, .int 0, .ref q1, .null])) :: (q0, zB G 15 (fun _ => none)) :: (q1, zB G 3 (fun _ => none)) :: []) H := hP
  have hD : va_D (va_A [(b, .inr (3, [.null, .int 0, .int 0, .null, .null]))] s.heap.size) ((b, .inr (3, [.ref q0, .int 0, .int 0, .ref q1, .null])) :: (q0, zB G 15 (fun _ => none)) :: (q1, zB G 3 (fun _ => none)) :: []) := hD
  refine lv_aload_n hx hb d_X6_init_21 rfl (lv_at hl 0 rfl) ?_
  refine lv_iconst (v := (3 : Int32)) hx hb d_X6_init_22 (by decide) ?_
  refine g_newa (k := 3) (N' := 3) (a1 := .inl (fun _ => 0)) .boolean X hC hP hD hS rfl wd_145 rfl (fun _ => rfl) (by decide) (by decide) (Nat.le_of_ble_eq_true rfl) (Nat.le_of_ble_eq_true rfl) (Nat.le_of_ble_eq_true rfl) d_X6_init_23 (fun q2 H hP hD hS => ?_)
  have hP : va_P (gD G) vwCl ((b, .inr (3, [.ref q0, .int 0, .int 0, .ref q1, .null])) :: (q0, zB G 15 (fun _ => none)) :: (q1, zB G 3 (fun _ => none)) :: (q2, zZ G 3) :: []) H := hP
  have hD : va_D (va_A [(b, .inr (3, [.null, .int 0, .int 0, .null, .null]))] s.heap.size) ((b, .inr (3, [.ref q0, .int 0, .int 0, .ref q1, .null])) :: (q0, zB G 15 (fun _ => none)) :: (q1, zB G 3 (fun _ => none)) :: (q2, zZ G 3) :: []) := hD
  refine g_putF (C := "OysterBeds$Past") (T := TX6) (N := 5) (ty := tyX6) (idx := 20) 0 4 X ct3 hP hD hS rfl (Nat.le_of_ble_eq_true rfl) wd_133 rfl hnm rfl rfl rfl (Nat.le_of_ble_eq_true rfl) d_X6_init_25 (fun H locs hP hD hS => ?_)
  have hP : va_P (gD G) vwCl ((b, .inr (3, [.ref q0, .int 0, .int 0, .ref q1, .ref q2])) :: (q0, zB G 15 (fun _ => none)) :: (q1, zB G 3 (fun _ => none)) :: (q2, zZ G 3) :: []) H := hP
  have hD : va_D (va_A [(b, .inr (3, [.null, .int 0, .int 0, .null, .null]))] s.heap.size) ((b, .inr (3, [.ref q0, .int 0, .int 0, .ref q1, .ref q2])) :: (q0, zB G 15 (fun _ => none)) :: (q1, zB G 3 (fun _ => none)) :: (q2, zZ G 3) :: []) := hD
  refine lv_iconst (v := (0 : Int32)) hx hb d_X6_init_28 (by decide) ?_
  refine lv_istore_n (lv' := [(1, .int (0 : Int32)), (0, .ref b)]) hx hb d_X6_init_29 rfl hl (Nat.le_of_ble_eq_true rfl) rfl (fun ls hl => ?_)
  refine lv_iload_n hx hb d_X6_init_30 rfl (lv_at hl 0 rfl) ?_
  refine lv_bipush (v := (15 : Int32)) hx hb d_X6_init_31 (by decide) ?_
  refine lv_icmp_ge (tgt := 55) hx hb d_X6_init_33 (by decide) (fun hc => ?_) (fun hc => ?_)
  · exact absurd hc (by decide)
  refine lv_aload_n hx hb d_X6_init_36 rfl (lv_at hl 1 rfl) ?_
  refine g_get (C := "OysterBeds$Past") (T := TX6) (N := 5) (ty := tyX6) (q := q0) 0 0 X ct3 hP rfl (Nat.le_of_ble_eq_true rfl) wd_128 rfl d_X6_init_37 ?_
  refine lv_iload_n hx hb d_X6_init_40 rfl (lv_at hl 0 rfl) ?_
  refine g_new (C := "OysterBeds$Bed") (T := TX0) (N := 8) (ty := tyX0) (fs := [.null, .null, .null, .null, .null, .int 0, .int 0, .int 0]) (rest := [.int (0 : Int32), .ref q0]) (host := "OysterBeds") (out := out_X0 G) X hO hC hgA ct0 hP hD hS hl rfl (by decide) wd_125 wd_65 wd_4 (Or.inl nw_30) wd_67 wd_68 (fun b => c_X0_init hgA) (by intro j hj; rcases j with _ | _ | _ | _ | _ | _ | _ | _ | j <;> first | rfl | omega) ⟨Nat.le_of_ble_eq_true rfl, Nat.le_of_ble_eq_true rfl⟩ (Nat.le_of_ble_eq_true rfl) (Nat.le_of_ble_eq_true rfl) (Nat.le_of_ble_eq_true rfl) d_X6_init_41 d_X6_init_44 d_X6_init_45 (fun q3 a3 H locs hP hD hS => ?_)
  have hP : va_P (gD G) vwCl ((b, .inr (3, [.ref q0, .int 0, .int 0, .ref q1, .ref q2])) :: (q0, zB G 15 (fun _ => none)) :: (q1, zB G 3 (fun _ => none)) :: (q2, zZ G 3) :: out_X0 G q3 a3) H := hP
  have hD : va_D (va_A [(b, .inr (3, [.null, .int 0, .int 0, .null, .null]))] s.heap.size) ((b, .inr (3, [.ref q0, .int 0, .int 0, .ref q1, .ref q2])) :: (q0, zB G 15 (fun _ => none)) :: (q1, zB G 3 (fun _ => none)) :: (q2, zZ G 3) :: out_X0 G q3 a3) := hD
  refine g_astq (N := 15) 1 4 X hP hD hS rfl rfl (i := (0 : Int32)) (by decide) d_X6_init_48 (fun H locs hP hD hS => ?_)
  have hP : va_P (gD G) vwCl ((b, .inr (3, [.ref q0, .int 0, .int 0, .ref q1, .ref q2])) :: (q0, zB G 15 (va_up (fun _ => none) 0 (some q3))) :: (q1, zB G 3 (fun _ => none)) :: (q2, zZ G 3) :: out_X0 G q3 a3) H := hP
  have hD : va_D (va_A [(b, .inr (3, [.null, .int 0, .int 0, .null, .null]))] s.heap.size) ((b, .inr (3, [.ref q0, .int 0, .int 0, .ref q1, .ref q2])) :: (q0, zB G 15 (va_up (fun _ => none) 0 (some q3))) :: (q1, zB G 3 (fun _ => none)) :: (q2, zZ G 3) :: out_X0 G q3 a3) := hD
  refine lv_iinc (v := (1 : Int32)) (k := 0) (lv' := [(1, .int (1 : Int32)), (0, .ref b)]) hx hb d_X6_init_49 hl rfl (by rfl) (Nat.le_of_ble_eq_true rfl) rfl (fun ls hl => ?_)
  refine lv_goto (tgt := 30) hx hb d_X6_init_52 (by decide) ?_
  refine lv_iload_n hx hb d_X6_init_30 rfl (lv_at hl 0 rfl) ?_
  refine lv_bipush (v := (15 : Int32)) hx hb d_X6_init_31 (by decide) ?_
  refine lv_icmp_ge (tgt := 55) hx hb d_X6_init_33 (by decide) (fun hc => ?_) (fun hc => ?_)
  · exact absurd hc (by decide)
  refine lv_aload_n hx hb d_X6_init_36 rfl (lv_at hl 1 rfl) ?_
  refine g_get (C := "OysterBeds$Past") (T := TX6) (N := 5) (ty := tyX6) (q := q0) 0 0 X ct3 hP rfl (Nat.le_of_ble_eq_true rfl) wd_128 rfl d_X6_init_37 ?_
  refine lv_iload_n hx hb d_X6_init_40 rfl (lv_at hl 0 rfl) ?_
  refine g_new (C := "OysterBeds$Bed") (T := TX0) (N := 8) (ty := tyX0) (fs := [.null, .null, .null, .null, .null, .int 0, .int 0, .int 0]) (rest := [.int (1 : Int32), .ref q0]) (host := "OysterBeds") (out := out_X0 G) X hO hC hgA ct0 hP hD hS hl rfl (by decide) wd_125 wd_65 wd_4 (Or.inl nw_30) wd_67 wd_68 (fun b => c_X0_init hgA) (by intro j hj; rcases j with _ | _ | _ | _ | _ | _ | _ | _ | j <;> first | rfl | omega) ⟨Nat.le_of_ble_eq_true rfl, Nat.le_of_ble_eq_true rfl⟩ (Nat.le_of_ble_eq_true rfl) (Nat.le_of_ble_eq_true rfl) (Nat.le_of_ble_eq_true rfl) d_X6_init_41 d_X6_init_44 d_X6_init_45 (fun q4 a4 H locs hP hD hS => ?_)
  have hP : va_P (gD G) vwCl ((b, .inr (3, [.ref q0, .int 0, .int 0, .ref q1, .ref q2])) :: (q0, zB G 15 (va_up (fun _ => none) 0 (some q3))) :: (q1, zB G 3 (fun _ => none)) :: (q2, zZ G 3) :: (out_X0 G q3 a3 ++ out_X0 G q4 a4)) H := hP
  have hD : va_D (va_A [(b, .inr (3, [.null, .int 0, .int 0, .null, .null]))] s.heap.size) ((b, .inr (3, [.ref q0, .int 0, .int 0, .ref q1, .ref q2])) :: (q0, zB G 15 (va_up (fun _ => none) 0 (some q3))) :: (q1, zB G 3 (fun _ => none)) :: (q2, zZ G 3) :: (out_X0 G q3 a3 ++ out_X0 G q4 a4)) := hD
  refine g_astq (N := 15) 1 10 X hP hD hS rfl rfl (i := (1 : Int32)) (by decide) d_X6_init_48 (fun H locs hP hD hS => ?_)
  have hP : va_P (gD G) vwCl ((b, .inr (3, [.ref q0, .int 0, .int 0, .ref q1, .ref q2])) :: (q0, zB G 15 (va_up (va_up (fun _ => none) 0 (some q3)) 1 (some q4))) :: (q1, zB G 3 (fun _ => none)) :: (q2, zZ G 3) :: (out_X0 G q3 a3 ++ out_X0 G q4 a4)) H := hP
  have hD : va_D (va_A [(b, .inr (3, [.null, .int 0, .int 0, .null, .null]))] s.heap.size) ((b, .inr (3, [.ref q0, .int 0, .int 0, .ref q1, .ref q2])) :: (q0, zB G 15 (va_up (va_up (fun _ => none) 0 (some q3)) 1 (some q4))) :: (q1, zB G 3 (fun _ => none)) :: (q2, zZ G 3) :: (out_X0 G q3 a3 ++ out_X0 G q4 a4)) := hD
  refine lv_iinc (v := (2 : Int32)) (k := 0) (lv' := [(1, .int (2 : Int32)), (0, .ref b)]) hx hb d_X6_init_49 hl rfl (by rfl) (Nat.le_of_ble_eq_true rfl) rfl (fun ls hl => ?_)
  refine lv_goto (tgt := 30) hx hb d_X6_init_52 (by decide) ?_
  refine lv_iload_n hx hb d_X6_init_30 rfl (lv_at hl 0 rfl) ?_
  refine lv_bipush (v := (15 : Int32)) hx hb d_X6_init_31 (by decide) ?_
  refine lv_icmp_ge (tgt := 55) hx hb d_X6_init_33 (by decide) (fun hc => ?_) (fun hc => ?_)
  · exact absurd hc (by decide)
  refine lv_aload_n hx hb d_X6_init_36 rfl (lv_at hl 1 rfl) ?_
  refine g_get (C := "OysterBeds$Past") (T := TX6) (N := 5) (ty := tyX6) (q := q0) 0 0 X ct3 hP rfl (Nat.le_of_ble_eq_true rfl) wd_128 rfl d_X6_init_37 ?_
  refine lv_iload_n hx hb d_X6_init_40 rfl (lv_at hl 0 rfl) ?_
  refine g_new (C := "OysterBeds$Bed") (T := TX0) (N := 8) (ty := tyX0) (fs := [.null, .null, .null, .null, .null, .int 0, .int 0, .int 0]) (rest := [.int (2 : Int32), .ref q0]) (host := "OysterBeds") (out := out_X0 G) X hO hC hgA ct0 hP hD hS hl rfl (by decide) wd_125 wd_65 wd_4 (Or.inl nw_30) wd_67 wd_68 (fun b => c_X0_init hgA) (by intro j hj; rcases j with _ | _ | _ | _ | _ | _ | _ | _ | j <;> first | rfl | omega) ⟨Nat.le_of_ble_eq_true rfl, Nat.le_of_ble_eq_true rfl⟩ (Nat.le_of_ble_eq_true rfl) (Nat.le_of_ble_eq_true rfl) (Nat.le_of_ble_eq_true rfl) d_X6_init_41 d_X6_init_44 d_X6_init_45 (fun q5 a5 H locs hP hD hS => ?_)
  have hP : va_P (gD G) vwCl ((b, .inr (3, [.ref q0, .int 0, .int 0, .ref q1, .ref q2])) :: (q0, zB G 15 (va_up (va_up (fun _ => none) 0 (some q3)) 1 (some q4))) :: (q1, zB G 3 (fun _ => none)) :: (q2, zZ G 3) :: ((out_X0 G q3 a3 ++ out_X0 G q4 a4) ++ out_X0 G q5 a5)) H := hP
  have hD : va_D (va_A [(b, .inr (3, [.null, .int 0, .int 0, .null, .null]))] s.heap.size) ((b, .inr (3, [.ref q0, .int 0, .int 0, .ref q1, .ref q2])) :: (q0, zB G 15 (va_up (va_up (fun _ => none) 0 (some q3)) 1 (some q4))) :: (q1, zB G 3 (fun _ => none)) :: (q2, zZ G 3) :: ((out_X0 G q3 a3 ++ out_X0 G q4 a4) ++ out_X0 G q5 a5)) := hD
  refine g_astq (N := 15) 1 16 X hP hD hS rfl rfl (i := (2 : Int32)) (by decide) d_X6_init_48 (fun H locs hP hD hS => ?_)
  have hP : va_P (gD G) vwCl ((b, .inr (3, [.ref q0, .int 0, .int 0, .ref q1, .ref q2])) :: (q0, zB G 15 (va_up (va_up (va_up (fun _ => none) 0 (some q3)) 1 (some q4)) 2 (some q5))) :: (q1, zB G 3 (fun _ => none)) :: (q2, zZ G 3) :: ((out_X0 G q3 a3 ++ out_X0 G q4 a4) ++ out_X0 G q5 a5)) H := hP
  have hD : va_D (va_A [(b, .inr (3, [.null, .int 0, .int 0, .null, .null]))] s.heap.size) ((b, .inr (3, [.ref q0, .int 0, .int 0, .ref q1, .ref q2])) :: (q0, zB G 15 (va_up (va_up (va_up (fun _ => none) 0 (some q3)) 1 (some q4)) 2 (some q5))) :: (q1, zB G 3 (fun _ => none)) :: (q2, zZ G 3) :: ((out_X0 G q3 a3 ++ out_X0 G q4 a4) ++ out_X0 G q5 a5)) := hD
  refine lv_iinc (v := (3 : Int32)) (k := 0) (lv' := [(1, .int (3 : Int32)), (0, .ref b)]) hx hb d_X6_init_49 hl rfl (by rfl) (Nat.le_of_ble_eq_true rfl) rfl (fun ls hl => ?_)
  refine lv_goto (tgt := 30) hx hb d_X6_init_52 (by decide) ?_
  refine lv_iload_n hx hb d_X6_init_30 rfl (lv_at hl 0 rfl) ?_
  refine lv_bipush (v := (15 : Int32)) hx hb d_X6_init_31 (by decide) ?_
  refine lv_icmp_ge (tgt := 55) hx hb d_X6_init_33 (by decide) (fun hc => ?_) (fun hc => ?_)
  · exact absurd hc (by decide)
  refine lv_aload_n hx hb d_X6_init_36 rfl (lv_at hl 1 rfl) ?_
  refine g_get (C := "OysterBeds$Past") (T := TX6) (N := 5) (ty := tyX6) (q := q0) 0 0 X ct3 hP rfl (Nat.le_of_ble_eq_true rfl) wd_128 rfl d_X6_init_37 ?_
  refine lv_iload_n hx hb d_X6_init_40 rfl (lv_at hl 0 rfl) ?_
  refine g_new (C := "OysterBeds$Bed") (T := TX0) (N := 8) (ty := tyX0) (fs := [.null, .null, .null, .null, .null, .int 0, .int 0, .int 0]) (rest := [.int (3 : Int32), .ref q0]) (host := "OysterBeds") (out := out_X0 G) X hO hC hgA ct0 hP hD hS hl rfl (by decide) wd_125 wd_65 wd_4 (Or.inl nw_30) wd_67 wd_68 (fun b => c_X0_init hgA) (by intro j hj; rcases j with _ | _ | _ | _ | _ | _ | _ | _ | j <;> first | rfl | omega) ⟨Nat.le_of_ble_eq_true rfl, Nat.le_of_ble_eq_true rfl⟩ (Nat.le_of_ble_eq_true rfl) (Nat.le_of_ble_eq_true rfl) (Nat.le_of_ble_eq_true rfl) d_X6_init_41 d_X6_init_44 d_X6_init_45 (fun q6 a6 H locs hP hD hS => ?_)
  have hP : va_P (gD G) vwCl ((b, .inr (3, [.ref q0, .int 0, .int 0, .ref q1, .ref q2])) :: (q0, zB G 15 (va_up (va_up (va_up (fun _ => none) 0 (some q3)) 1 (some q4)) 2 (some q5))) :: (q1, zB G 3 (fun _ => none)) :: (q2, zZ G 3) :: (((out_X0 G q3 a3 ++ out_X0 G q4 a4) ++ out_X0 G q5 a5) ++ out_X0 G q6 a6)) H := hP
  have hD : va_D (va_A [(b, .inr (3, [.null, .int 0, .int 0, .null, .null]))] s.heap.size) ((b, .inr (3, [.ref q0, .int 0, .int 0, .ref q1, .ref q2])) :: (q0, zB G 15 (va_up (va_up (va_up (fun _ => none) 0 (some q3)) 1 (some q4)) 2 (some q5))) :: (q1, zB G 3 (fun _ => none)) :: (q2, zZ G 3) :: (((out_X0 G q3 a3 ++ out_X0 G q4 a4) ++ out_X0 G q5 a5) ++ out_X0 G q6 a6)) := hD
  refine g_astq (N := 15) 1 22 X hP hD hS rfl rfl (i := (3 : Int32)) (by decide) d_X6_init_48 (fun H locs hP hD hS => ?_)
  have hP : va_P (gD G) vwCl ((b, .inr (3, [.ref q0, .int 0, .int 0, .ref q1, .ref q2])) :: (q0, zB G 15 (va_up (va_up (va_up (va_up (fun _ => none) 0 (some q3)) 1 (some q4)) 2 (some q5)) 3 (some q6))) :: (q1, zB G 3 (fun _ => none)) :: (q2, zZ G 3) :: (((out_X0 G q3 a3 ++ out_X0 G q4 a4) ++ out_X0 G q5 a5) ++ out_X0 G q6 a6)) H := hP
  have hD : va_D (va_A [(b, .inr (3, [.null, .int 0, .int 0, .null, .null]))] s.heap.size) ((b, .inr (3, [.ref q0, .int 0, .int 0, .ref q1, .ref q2])) :: (q0, zB G 15 (va_up (va_up (va_up (va_up (fun _ => none) 0 (some q3)) 1 (some q4)) 2 (some q5)) 3 (some q6))) :: (q1, zB G 3 (fun _ => none)) :: (q2, zZ G 3) :: (((out_X0 G q3 a3 ++ out_X0 G q4 a4) ++ out_X0 G q5 a5) ++ out_X0 G q6 a6)) := hD
  refine lv_iinc (v := (4 : Int32)) (k := 0) (lv' := [(1, .int (4 : Int32)), (0, .ref b)]) hx hb d_X6_init_49 hl rfl (by rfl) (Nat.le_of_ble_eq_true rfl) rfl (fun ls hl => ?_)
  refine lv_goto (tgt := 30) hx hb d_X6_init_52 (by decide) ?_
  refine lv_iload_n hx hb d_X6_init_30 rfl (lv_at hl 0 rfl) ?_
  refine lv_bipush (v := (15 : Int32)) hx hb d_X6_init_31 (by decide) ?_
  refine lv_icmp_ge (tgt := 55) hx hb d_X6_init_33 (by decide) (fun hc => ?_) (fun hc => ?_)
  · exact absurd hc (by decide)
  refine lv_aload_n hx hb d_X6_init_36 rfl (lv_at hl 1 rfl) ?_
  refine g_get (C := "OysterBeds$Past") (T := TX6) (N := 5) (ty := tyX6) (q := q0) 0 0 X ct3 hP rfl (Nat.le_of_ble_eq_true rfl) wd_128 rfl d_X6_init_37 ?_
  refine lv_iload_n hx hb d_X6_init_40 rfl (lv_at hl 0 rfl) ?_
  refine g_new (C := "OysterBeds$Bed") (T := TX0) (N := 8) (ty := tyX0) (fs := [.null, .null, .null, .null, .null, .int 0, .int 0, .int 0]) (rest := [.int (4 : Int32), .ref q0]) (host := "OysterBeds") (out := out_X0 G) X hO hC hgA ct0 hP hD hS hl rfl (by decide) wd_125 wd_65 wd_4 (Or.inl nw_30) wd_67 wd_68 (fun b => c_X0_init hgA) (by intro j hj; rcases j with _ | _ | _ | _ | _ | _ | _ | _ | j <;> first | rfl | omega) ⟨Nat.le_of_ble_eq_true rfl, Nat.le_of_ble_eq_true rfl⟩ (Nat.le_of_ble_eq_true rfl) (Nat.le_of_ble_eq_true rfl) (Nat.le_of_ble_eq_true rfl) d_X6_init_41 d_X6_init_44 d_X6_init_45 (fun q7 a7 H locs hP hD hS => ?_)
  have hP : va_P (gD G) vwCl ((b, .inr (3, [.ref q0, .int 0, .int 0, .ref q1, .ref q2])) :: (q0, zB G 15 (va_up (va_up (va_up (va_up (fun _ => none) 0 (some q3)) 1 (some q4)) 2 (some q5)) 3 (some q6))) :: (q1, zB G 3 (fun _ => none)) :: (q2, zZ G 3) :: ((((out_X0 G q3 a3 ++ out_X0 G q4 a4) ++ out_X0 G q5 a5) ++ out_X0 G q6 a6) ++ out_X0 G q7 a7)) H := hP
  have hD : va_D (va_A [(b, .inr (3, [.null, .int 0, .int 0, .null, .null]))] s.heap.size) ((b, .inr (3, [.ref q0, .int 0, .int 0, .ref q1, .ref q2])) :: (q0, zB G 15 (va_up (va_up (va_up (va_up (fun _ => none) 0 (some q3)) 1 (some q4)) 2 (some q5)) 3 (some q6))) :: (q1, zB G 3 (fun _ => none)) :: (q2, zZ G 3) :: ((((out_X0 G q3 a3 ++ out_X0 G q4 a4) ++ out_X0 G q5 a5) ++ out_X0 G q6 a6) ++ out_X0 G q7 a7)) := hD
  refine g_astq (N := 15) 1 28 X hP hD hS rfl rfl (i := (4 : Int32)) (by decide) d_X6_init_48 (fun H locs hP hD hS => ?_)
  have hP : va_P (gD G) vwCl ((b, .inr (3, [.ref q0, .int 0, .int 0, .ref q1, .ref q2])) :: (q0, zB G 15 (va_up (va_up (va_up (va_up (va_up (fun _ => none) 0 (some q3)) 1 (some q4)) 2 (some q5)) 3 (some q6)) 4 (some q7))) :: (q1, zB G 3 (fun _ => none)) :: (q2, zZ G 3) :: ((((out_X0 G q3 a3 ++ out_X0 G q4 a4) ++ out_X0 G q5 a5) ++ out_X0 G q6 a6) ++ out_X0 G q7 a7)) H := hP
  have hD : va_D (va_A [(b, .inr (3, [.null, .int 0, .int 0, .null, .null]))] s.heap.size) ((b, .inr (3, [.ref q0, .int 0, .int 0, .ref q1, .ref q2])) :: (q0, zB G 15 (va_up (va_up (va_up (va_up (va_up (fun _ => none) 0 (some q3)) 1 (some q4)) 2 (some q5)) 3 (some q6)) 4 (some q7))) :: (q1, zB G 3 (fun _ => none)) :: (q2, zZ G 3) :: ((((out_X0 G q3 a3 ++ out_X0 G q4 a4) ++ out_X0 G q5 a5) ++ out_X0 G q6 a6) ++ out_X0 G q7 a7)) := hD
  refine lv_iinc (v := (5 : Int32)) (k := 0) (lv' := [(1, .int (5 : Int32)), (0, .ref b)]) hx hb d_X6_init_49 hl rfl (by rfl) (Nat.le_of_ble_eq_true rfl) rfl (fun ls hl => ?_)
  refine lv_goto (tgt := 30) hx hb d_X6_init_52 (by decide) ?_
  refine lv_iload_n hx hb d_X6_init_30 rfl (lv_at hl 0 rfl) ?_
  refine lv_bipush (v := (15 : Int32)) hx hb d_X6_init_31 (by decide) ?_
  refine lv_icmp_ge (tgt := 55) hx hb d_X6_init_33 (by decide) (fun hc => ?_) (fun hc => ?_)
  · exact absurd hc (by decide)
  refine lv_aload_n hx hb d_X6_init_36 rfl (lv_at hl 1 rfl) ?_
  refine g_get (C := "OysterBeds$Past") (T := TX6) (N := 5) (ty := tyX6) (q := q0) 0 0 X ct3 hP rfl (Nat.le_of_ble_eq_true rfl) wd_128 rfl d_X6_init_37 ?_
  refine lv_iload_n hx hb d_X6_init_40 rfl (lv_at hl 0 rfl) ?_
  refine g_new (C := "OysterBeds$Bed") (T := TX0) (N := 8) (ty := tyX0) (fs := [.null, .null, .null, .null, .null, .int 0, .int 0, .int 0]) (rest := [.int (5 : Int32), .ref q0]) (host := "OysterBeds") (out := out_X0 G) X hO hC hgA ct0 hP hD hS hl rfl (by decide) wd_125 wd_65 wd_4 (Or.inl nw_30) wd_67 wd_68 (fun b => c_X0_init hgA) (by intro j hj; rcases j with _ | _ | _ | _ | _ | _ | _ | _ | j <;> first | rfl | omega) ⟨Nat.le_of_ble_eq_true rfl, Nat.le_of_ble_eq_true rfl⟩ (Nat.le_of_ble_eq_true rfl) (Nat.le_of_ble_eq_true rfl) (Nat.le_of_ble_eq_true rfl) d_X6_init_41 d_X6_init_44 d_X6_init_45 (fun q8 a8 H locs hP hD hS => ?_)
  have hP : va_P (gD G) vwCl ((b, .inr (3, [.ref q0, .int 0, .int 0, .ref q1, .ref q2])) :: (q0, zB G 15 (va_up (va_up (va_up (va_up (va_up (fun _ => none) 0 (some q3)) 1 (some q4)) 2 (some q5)) 3 (some q6)) 4 (some q7))) :: (q1, zB G 3 (fun _ => none)) :: (q2, zZ G 3) :: (((((out_X0 G q3 a3 ++ out_X0 G q4 a4) ++ out_X0 G q5 a5) ++ out_X0 G q6 a6) ++ out_X0 G q7 a7) ++ out_X0 G q8 a8)) H := hP
  have hD : va_D (va_A [(b, .inr (3, [.null, .int 0, .int 0, .null, .null]))] s.heap.size) ((b, .inr (3, [.ref q0, .int 0, .int 0, .ref q1, .ref q2])) :: (q0, zB G 15 (va_up (va_up (va_up (va_up (va_up (fun _ => none) 0 (some q3)) 1 (some q4)) 2 (some q5)) 3 (some q6)) 4 (some q7))) :: (q1, zB G 3 (fun _ => none)) :: (q2, zZ G 3) :: (((((out_X0 G q3 a3 ++ out_X0 G q4 a4) ++ out_X0 G q5 a5) ++ out_X0 G q6 a6) ++ out_X0 G q7 a7) ++ out_X0 G q8 a8)) := hD
  refine g_astq (N := 15) 1 34 X hP hD hS rfl rfl (i := (5 : Int32)) (by decide) d_X6_init_48 (fun H locs hP hD hS => ?_)
  have hP : va_P (gD G) vwCl ((b, .inr (3, [.ref q0, .int 0, .int 0, .ref q1, .ref q2])) :: (q0, zB G 15 (va_up (va_up (va_up (va_up (va_up (va_up (fun _ => none) 0 (some q3)) 1 (some q4)) 2 (some q5)) 3 (some q6)) 4 (some q7)) 5 (some q8))) :: (q1, zB G 3 (fun _ => none)) :: (q2, zZ G 3) :: (((((out_X0 G q3 a3 ++ out_X0 G q4 a4) ++ out_X0 G q5 a5) ++ out_X0 G q6 a6) ++ out_X0 G q7 a7) ++ out_X0 G q8 a8)) H := hP
  have hD : va_D (va_A [(b, .inr (3, [.null, .int 0, .int 0, .null, .null]))] s.heap.size) ((b, .inr (3, [.ref q0, .int 0, .int 0, .ref q1, .ref q2])) :: (q0, zB G 15 (va_up (va_up (va_up (va_up (va_up (va_up (fun _ => none) 0 (some q3)) 1 (some q4)) 2 (some q5)) 3 (some q6)) 4 (some q7)) 5 (some q8))) :: (q1, zB G 3 (fun _ => none)) :: (q2, zZ G 3) :: (((((out_X0 G q3 a3 ++ out_X0 G q4 a4) ++ out_X0 G q5 a5) ++ out_X0 G q6 a6) ++ out_X0 G q7 a7) ++ out_X0 G q8 a8)) := hD
  refine lv_iinc (v := (6 : Int32)) (k := 0) (lv' := [(1, .int (6 : Int32)), (0, .ref b)]) hx hb d_X6_init_49 hl rfl (by rfl) (Nat.le_of_ble_eq_true rfl) rfl (fun ls hl => ?_)
  refine lv_goto (tgt := 30) hx hb d_X6_init_52 (by decide) ?_
  refine lv_iload_n hx hb d_X6_init_30 rfl (lv_at hl 0 rfl) ?_
  refine lv_bipush (v := (15 : Int32)) hx hb d_X6_init_31 (by decide) ?_
  refine lv_icmp_ge (tgt := 55) hx hb d_X6_init_33 (by decide) (fun hc => ?_) (fun hc => ?_)
  · exact absurd hc (by decide)
  refine lv_aload_n hx hb d_X6_init_36 rfl (lv_at hl 1 rfl) ?_
  refine g_get (C := "OysterBeds$Past") (T := TX6) (N := 5) (ty := tyX6) (q := q0) 0 0 X ct3 hP rfl (Nat.le_of_ble_eq_true rfl) wd_128 rfl d_X6_init_37 ?_
  refine lv_iload_n hx hb d_X6_init_40 rfl (lv_at hl 0 rfl) ?_
  refine g_new (C := "OysterBeds$Bed") (T := TX0) (N := 8) (ty := tyX0) (fs := [.null, .null, .null, .null, .null, .int 0, .int 0, .int 0]) (rest := [.int (6 : Int32), .ref q0]) (host := "OysterBeds") (out := out_X0 G) X hO hC hgA ct0 hP hD hS hl rfl (by decide) wd_125 wd_65 wd_4 (Or.inl nw_30) wd_67 wd_68 (fun b => c_X0_init hgA) (by intro j hj; rcases j with _ | _ | _ | _ | _ | _ | _ | _ | j <;> first | rfl | omega) ⟨Nat.le_of_ble_eq_true rfl, Nat.le_of_ble_eq_true rfl⟩ (Nat.le_of_ble_eq_true rfl) (Nat.le_of_ble_eq_true rfl) (Nat.le_of_ble_eq_true rfl) d_X6_init_41 d_X6_init_44 d_X6_init_45 (fun q9 a9 H locs hP hD hS => ?_)
  have hP : va_P (gD G) vwCl ((b, .inr (3, [.ref q0, .int 0, .int 0, .ref q1, .ref q2])) :: (q0, zB G 15 (va_up (va_up (va_up (va_up (va_up (va_up (fun _ => none) 0 (some q3)) 1 (some q4)) 2 (some q5)) 3 (some q6)) 4 (some q7)) 5 (some q8))) :: (q1, zB G 3 (fun _ => none)) :: (q2, zZ G 3) :: ((((((out_X0 G q3 a3 ++ out_X0 G q4 a4) ++ out_X0 G q5 a5) ++ out_X0 G q6 a6) ++ out_X0 G q7 a7) ++ out_X0 G q8 a8) ++ out_X0 G q9 a9)) H := hP
  have hD : va_D (va_A [(b, .inr (3, [.null, .int 0, .int 0, .null, .null]))] s.heap.size) ((b, .inr (3, [.ref q0, .int 0, .int 0, .ref q1, .ref q2])) :: (q0, zB G 15 (va_up (va_up (va_up (va_up (va_up (va_up (fun _ => none) 0 (some q3)) 1 (some q4)) 2 (some q5)) 3 (some q6)) 4 (some q7)) 5 (some q8))) :: (q1, zB G 3 (fun _ => none)) :: (q2, zZ G 3) :: ((((((out_X0 G q3 a3 ++ out_X0 G q4 a4) ++ out_X0 G q5 a5) ++ out_X0 G q6 a6) ++ out_X0 G q7 a7) ++ out_X0 G q8 a8) ++ out_X0 G q9 a9)) := hD
  refine g_astq (N := 15) 1 40 X hP hD hS rfl rfl (i := (6 : Int32)) (by decide) d_X6_init_48 (fun H locs hP hD hS => ?_)
  have hP : va_P (gD G) vwCl ((b, .inr (3, [.ref q0, .int 0, .int 0, .ref q1, .ref q2])) :: (q0, zB G 15 (va_up (va_up (va_up (va_up (va_up (va_up (va_up (fun _ => none) 0 (some q3)) 1 (some q4)) 2 (some q5)) 3 (some q6)) 4 (some q7)) 5 (some q8)) 6 (some q9))) :: (q1, zB G 3 (fun _ => none)) :: (q2, zZ G 3) :: ((((((out_X0 G q3 a3 ++ out_X0 G q4 a4) ++ out_X0 G q5 a5) ++ out_X0 G q6 a6) ++ out_X0 G q7 a7) ++ out_X0 G q8 a8) ++ out_X0 G q9 a9)) H := hP
  have hD : va_D (va_A [(b, .inr (3, [.null, .int 0, .int 0, .null, .null]))] s.heap.size) ((b, .inr (3, [.ref q0, .int 0, .int 0, .ref q1, .ref q2])) :: (q0, zB G 15 (va_up (va_up (va_up (va_up (va_up (va_up (va_up (fun _ => none) 0 (some q3)) 1 (some q4)) 2 (some q5)) 3 (some q6)) 4 (some q7)) 5 (some q8)) 6 (some q9))) :: (q1, zB G 3 (fun _ => none)) :: (q2, zZ G 3) :: ((((((out_X0 G q3 a3 ++ out_X0 G q4 a4) ++ out_X0 G q5 a5) ++ out_X0 G q6 a6) ++ out_X0 G q7 a7) ++ out_X0 G q8 a8) ++ out_X0 G q9 a9)) := hD
  refine lv_iinc (v := (7 : Int32)) (k := 0) (lv' := [(1, .int (7 : Int32)), (0, .ref b)]) hx hb d_X6_init_49 hl rfl (by rfl) (Nat.le_of_ble_eq_true rfl) rfl (fun ls hl => ?_)
  refine lv_goto (tgt := 30) hx hb d_X6_init_52 (by decide) ?_
  refine lv_iload_n hx hb d_X6_init_30 rfl (lv_at hl 0 rfl) ?_
  refine lv_bipush (v := (15 : Int32)) hx hb d_X6_init_31 (by decide) ?_
  refine lv_icmp_ge (tgt := 55) hx hb d_X6_init_33 (by decide) (fun hc => ?_) (fun hc => ?_)
  · exact absurd hc (by decide)
  refine lv_aload_n hx hb d_X6_init_36 rfl (lv_at hl 1 rfl) ?_
  refine g_get (C := "OysterBeds$Past") (T := TX6) (N := 5) (ty := tyX6) (q := q0) 0 0 X ct3 hP rfl (Nat.le_of_ble_eq_true rfl) wd_128 rfl d_X6_init_37 ?_
  refine lv_iload_n hx hb d_X6_init_40 rfl (lv_at hl 0 rfl) ?_
  refine g_new (C := "OysterBeds$Bed") (T := TX0) (N := 8) (ty := tyX0) (fs := [.null, .null, .null, .null, .null, .int 0, .int 0, .int 0]) (rest := [.int (7 : Int32), .ref q0]) (host := "OysterBeds") (out := out_X0 G) X hO hC hgA ct0 hP hD hS hl rfl (by decide) wd_125 wd_65 wd_4 (Or.inl nw_30) wd_67 wd_68 (fun b => c_X0_init hgA) (by intro j hj; rcases j with _ | _ | _ | _ | _ | _ | _ | _ | j <;> first | rfl | omega) ⟨Nat.le_of_ble_eq_true rfl, Nat.le_of_ble_eq_true rfl⟩ (Nat.le_of_ble_eq_true rfl) (Nat.le_of_ble_eq_true rfl) (Nat.le_of_ble_eq_true rfl) d_X6_init_41 d_X6_init_44 d_X6_init_45 (fun q10 a10 H locs hP hD hS => ?_)
  have hP : va_P (gD G) vwCl ((b, .inr (3, [.ref q0, .int 0, .int 0, .ref q1, .ref q2])) :: (q0, zB G 15 (va_up (va_up (va_up (va_up (va_up (va_up (va_up (fun _ => none) 0 (some q3)) 1 (some q4)) 2 (some q5)) 3 (some q6)) 4 (some q7)) 5 (some q8)) 6 (some q9))) :: (q1, zB G 3 (fun _ => none)) :: (q2, zZ G 3) :: (((((((out_X0 G q3 a3 ++ out_X0 G q4 a4) ++ out_X0 G q5 a5) ++ out_X0 G q6 a6) ++ out_X0 G q7 a7) ++ out_X0 G q8 a8) ++ out_X0 G q9 a9) ++ out_X0 G q10 a10)) H := hP
  have hD : va_D (va_A [(b, .inr (3, [.null, .int 0, .int 0, .null, .null]))] s.heap.size) ((b, .inr (3, [.ref q0, .int 0, .int 0, .ref q1, .ref q2])) :: (q0, zB G 15 (va_up (va_up (va_up (va_up (va_up (va_up (va_up (fun _ => none) 0 (some q3)) 1 (some q4)) 2 (some q5)) 3 (some q6)) 4 (some q7)) 5 (some q8)) 6 (some q9))) :: (q1, zB G 3 (fun _ => none)) :: (q2, zZ G 3) :: (((((((out_X0 G q3 a3 ++ out_X0 G q4 a4) ++ out_X0 G q5 a5) ++ out_X0 G q6 a6) ++ out_X0 G q7 a7) ++ out_X0 G q8 a8) ++ out_X0 G q9 a9) ++ out_X0 G q10 a10)) := hD
  refine g_astq (N := 15) 1 46 X hP hD hS rfl rfl (i := (7 : Int32)) (by decide) d_X6_init_48 (fun H locs hP hD hS => ?_)
  have hP : va_P (gD G) vwCl ((b, .inr (3, [.ref q0, .int 0, .int 0, .ref q1, .ref q2])) :: (q0, zB G 15 (va_up (va_up (va_up (va_up (va_up (va_up (va_up (va_up (fun _ => none) 0 (some q3)) 1 (some q4)) 2 (some q5)) 3 (some q6)) 4 (some q7)) 5 (some q8)) 6 (some q9)) 7 (some q10))) :: (q1, zB G 3 (fun _ => none)) :: (q2, zZ G 3) :: (((((((out_X0 G q3 a3 ++ out_X0 G q4 a4) ++ out_X0 G q5 a5) ++ out_X0 G q6 a6) ++ out_X0 G q7 a7) ++ out_X0 G q8 a8) ++ out_X0 G q9 a9) ++ out_X0 G q10 a10)) H := hP
  have hD : va_D (va_A [(b, .inr (3, [.null, .int 0, .int 0, .null, .null]))] s.heap.size) ((b, .inr (3, [.ref q0, .int 0, .int 0, .ref q1, .ref q2])) :: (q0, zB G 15 (va_up (va_up (va_up (va_up (va_up (va_up (va_up (va_up (fun _ => none) 0 (some q3)) 1 (some q4)) 2 (some q5)) 3 (some q6)) 4 (some q7)) 5 (some q8)) 6 (some q9)) 7 (some q10))) :: (q1, zB G 3 (fun _ => none)) :: (q2, zZ G 3) :: (((((((out_X0 G q3 a3 ++ out_X0 G q4 a4) ++ out_X0 G q5 a5) ++ out_X0 G q6 a6) ++ out_X0 G q7 a7) ++ out_X0 G q8 a8) ++ out_X0 G q9 a9) ++ out_X0 G q10 a10)) := hD
  refine lv_iinc (v := (8 : Int32)) (k := 0) (lv' := [(1, .int (8 : Int32)), (0, .ref b)]) hx hb d_X6_init_49 hl rfl (by rfl) (Nat.le_of_ble_eq_true rfl) rfl (fun ls hl => ?_)
  refine lv_goto (tgt := 30) hx hb d_X6_init_52 (by decide) ?_
  refine lv_iload_n hx hb d_X6_init_30 rfl (lv_at hl 0 rfl) ?_
  refine lv_bipush (v := (15 : Int32)) hx hb d_X6_init_31 (by decide) ?_
  refine lv_icmp_ge (tgt := 55) hx hb d_X6_init_33 (by decide) (fun hc => ?_) (fun hc => ?_)
  · exact absurd hc (by decide)
  refine lv_aload_n hx hb d_X6_init_36 rfl (lv_at hl 1 rfl) ?_
  refine g_get (C := "OysterBeds$Past") (T := TX6) (N := 5) (ty := tyX6) (q := q0) 0 0 X ct3 hP rfl (Nat.le_of_ble_eq_true rfl) wd_128 rfl d_X6_init_37 ?_
  refine lv_iload_n hx hb d_X6_init_40 rfl (lv_at hl 0 rfl) ?_
  refine g_new (C := "OysterBeds$Bed") (T := TX0) (N := 8) (ty := tyX0) (fs := [.null, .null, .null, .null, .null, .int 0, .int 0, .int 0]) (rest := [.int (8 : Int32), .ref q0]) (host := "OysterBeds") (out := out_X0 G) X hO hC hgA ct0 hP hD hS hl rfl (by decide) wd_125 wd_65 wd_4 (Or.inl nw_30) wd_67 wd_68 (fun b => c_X0_init hgA) (by intro j hj; rcases j with _ | _ | _ | _ | _ | _ | _ | _ | j <;> first | rfl | omega) ⟨Nat.le_of_ble_eq_true rfl, Nat.le_of_ble_eq_true rfl⟩ (Nat.le_of_ble_eq_true rfl) (Nat.le_of_ble_eq_true rfl) (Nat.le_of_ble_eq_true rfl) d_X6_init_41 d_X6_init_44 d_X6_init_45 (fun q11 a11 H locs hP hD hS => ?_)
  have hP : va_P (gD G) vwCl ((b, .inr (3, [.ref q0, .int 0, .int 0, .ref q1, .ref q2])) :: (q0, zB G 15 (va_up (va_up (va_up (va_up (va_up (va_up (va_up (va_up (fun _ => none) 0 (some q3)) 1 (some q4)) 2 (some q5)) 3 (some q6)) 4 (some q7)) 5 (some q8)) 6 (some q9)) 7 (some q10))) :: (q1, zB G 3 (fun _ => none)) :: (q2, zZ G 3) :: ((((((((out_X0 G q3 a3 ++ out_X0 G q4 a4) ++ out_X0 G q5 a5) ++ out_X0 G q6 a6) ++ out_X0 G q7 a7) ++ out_X0 G q8 a8) ++ out_X0 G q9 a9) ++ out_X0 G q10 a10) ++ out_X0 G q11 a11)) H := hP
  have hD : va_D (va_A [(b, .inr (3, [.null, .int 0, .int 0, .null, .null]))] s.heap.size) ((b, .inr (3, [.ref q0, .int 0, .int 0, .ref q1, .ref q2])) :: (q0, zB G 15 (va_up (va_up (va_up (va_up (va_up (va_up (va_up (va_up (fun _ => none) 0 (some q3)) 1 (some q4)) 2 (some q5)) 3 (some q6)) 4 (some q7)) 5 (some q8)) 6 (some q9)) 7 (some q10))) :: (q1, zB G 3 (fun _ => none)) :: (q2, zZ G 3) :: ((((((((out_X0 G q3 a3 ++ out_X0 G q4 a4) ++ out_X0 G q5 a5) ++ out_X0 G q6 a6) ++ out_X0 G q7 a7) ++ out_X0 G q8 a8) ++ out_X0 G q9 a9) ++ out_X0 G q10 a10) ++ out_X0 G q11 a11)) := hD
  refine g_astq (N := 15) 1 52 X hP hD hS rfl rfl (i := (8 : Int32)) (by decide) d_X6_init_48 (fun H locs hP hD hS => ?_)
  have hP : va_P (gD G) vwCl ((b, .inr (3, [.ref q0, .int 0, .int 0, .ref q1, .ref q2])) :: (q0, zB G 15 (va_up (va_up (va_up (va_up (va_up (va_up (va_up (va_up (va_up (fun _ => none) 0 (some q3)) 1 (some q4)) 2 (some q5)) 3 (some q6)) 4 (some q7)) 5 (some q8)) 6 (some q9)) 7 (some q10)) 8 (some q11))) :: (q1, zB G 3 (fun _ => none)) :: (q2, zZ G 3) :: ((((((((out_X0 G q3 a3 ++ out_X0 G q4 a4) ++ out_X0 G q5 a5) ++ out_X0 G q6 a6) ++ out_X0 G q7 a7) ++ out_X0 G q8 a8) ++ out_X0 G q9 a9) ++ out_X0 G q10 a10) ++ out_X0 G q11 a11)) H := hP
  have hD : va_D (va_A [(b, .inr (3, [.null, .int 0, .int 0, .null, .null]))] s.heap.size) ((b, .inr (3, [.ref q0, .int 0, .int 0, .ref q1, .ref q2])) :: (q0, zB G 15 (va_up (va_up (va_up (va_up (va_up (va_up (va_up (va_up (va_up (fun _ => none) 0 (some q3)) 1 (some q4)) 2 (some q5)) 3 (some q6)) 4 (some q7)) 5 (some q8)) 6 (some q9)) 7 (some q10)) 8 (some q11))) :: (q1, zB G 3 (fun _ => none)) :: (q2, zZ G 3) :: ((((((((out_X0 G q3 a3 ++ out_X0 G q4 a4) ++ out_X0 G q5 a5) ++ out_X0 G q6 a6) ++ out_X0 G q7 a7) ++ out_X0 G q8 a8) ++ out_X0 G q9 a9) ++ out_X0 G q10 a10) ++ out_X0 G q11 a11)) := hD
  refine lv_iinc (v := (9 : Int32)) (k := 0) (lv' := [(1, .int (9 : Int32)), (0, .ref b)]) hx hb d_X6_init_49 hl rfl (by rfl) (Nat.le_of_ble_eq_true rfl) rfl (fun ls hl => ?_)
  refine lv_goto (tgt := 30) hx hb d_X6_init_52 (by decide) ?_
  refine lv_iload_n hx hb d_X6_init_30 rfl (lv_at hl 0 rfl) ?_
  refine lv_bipush (v := (15 : Int32)) hx hb d_X6_init_31 (by decide) ?_
  refine lv_icmp_ge (tgt := 55) hx hb d_X6_init_33 (by decide) (fun hc => ?_) (fun hc => ?_)
  · exact absurd hc (by decide)
  refine lv_aload_n hx hb d_X6_init_36 rfl (lv_at hl 1 rfl) ?_
  refine g_get (C := "OysterBeds$Past") (T := TX6) (N := 5) (ty := tyX6) (q := q0) 0 0 X ct3 hP rfl (Nat.le_of_ble_eq_true rfl) wd_128 rfl d_X6_init_37 ?_
  refine lv_iload_n hx hb d_X6_init_40 rfl (lv_at hl 0 rfl) ?_
  refine g_new (C := "OysterBeds$Bed") (T := TX0) (N := 8) (ty := tyX0) (fs := [.null, .null, .null, .null, .null, .int 0, .int 0, .int 0]) (rest := [.int (9 : Int32), .ref q0]) (host := "OysterBeds") (out := out_X0 G) X hO hC hgA ct0 hP hD hS hl rfl (by decide) wd_125 wd_65 wd_4 (Or.inl nw_30) wd_67 wd_68 (fun b => c_X0_init hgA) (by intro j hj; rcases j with _ | _ | _ | _ | _ | _ | _ | _ | j <;> first | rfl | omega) ⟨Nat.le_of_ble_eq_true rfl, Nat.le_of_ble_eq_true rfl⟩ (Nat.le_of_ble_eq_true rfl) (Nat.le_of_ble_eq_true rfl) (Nat.le_of_ble_eq_true rfl) d_X6_init_41 d_X6_init_44 d_X6_init_45 (fun q12 a12 H locs hP hD hS => ?_)
  have hP : va_P (gD G) vwCl ((b, .inr (3, [.ref q0, .int 0, .int 0, .ref q1, .ref q2])) :: (q0, zB G 15 (va_up (va_up (va_up (va_up (va_up (va_up (va_up (va_up (va_up (fun _ => none) 0 (some q3)) 1 (some q4)) 2 (some q5)) 3 (some q6)) 4 (some q7)) 5 (some q8)) 6 (some q9)) 7 (some q10)) 8 (some q11))) :: (q1, zB G 3 (fun _ => none)) :: (q2, zZ G 3) :: (((((((((out_X0 G q3 a3 ++ out_X0 G q4 a4) ++ out_X0 G q5 a5) ++ out_X0 G q6 a6) ++ out_X0 G q7 a7) ++ out_X0 G q8 a8) ++ out_X0 G q9 a9) ++ out_X0 G q10 a10) ++ out_X0 G q11 a11) ++ out_X0 G q12 a12)) H := hP
  have hD : va_D (va_A [(b, .inr (3, [.null, .int 0, .int 0, .null, .null]))] s.heap.size) ((b, .inr (3, [.ref q0, .int 0, .int 0, .ref q1, .ref q2])) :: (q0, zB G 15 (va_up (va_up (va_up (va_up (va_up (va_up (va_up (va_up (va_up (fun _ => none) 0 (some q3)) 1 (some q4)) 2 (some q5)) 3 (some q6)) 4 (some q7)) 5 (some q8)) 6 (some q9)) 7 (some q10)) 8 (some q11))) :: (q1, zB G 3 (fun _ => none)) :: (q2, zZ G 3) :: (((((((((out_X0 G q3 a3 ++ out_X0 G q4 a4) ++ out_X0 G q5 a5) ++ out_X0 G q6 a6) ++ out_X0 G q7 a7) ++ out_X0 G q8 a8) ++ out_X0 G q9 a9) ++ out_X0 G q10 a10) ++ out_X0 G q11 a11) ++ out_X0 G q12 a12)) := hD
  refine g_astq (N := 15) 1 58 X hP hD hS rfl rfl (i := (9 : Int32)) (by decide) d_X6_init_48 (fun H locs hP hD hS => ?_)
  have hP : va_P (gD G) vwCl ((b, .inr (3, [.ref q0, .int 0, .int 0, .ref q1, .ref q2])) :: (q0, zB G 15 (va_up (va_up (va_up (va_up (va_up (va_up (va_up (va_up (va_up (va_up (fun _ => none) 0 (some q3)) 1 (some q4)) 2 (some q5)) 3 (some q6)) 4 (some q7)) 5 (some q8)) 6 (some q9)) 7 (some q10)) 8 (some q11)) 9 (some q12))) :: (q1, zB G 3 (fun _ => none)) :: (q2, zZ G 3) :: (((((((((out_X0 G q3 a3 ++ out_X0 G q4 a4) ++ out_X0 G q5 a5) ++ out_X0 G q6 a6) ++ out_X0 G q7 a7) ++ out_X0 G q8 a8) ++ out_X0 G q9 a9) ++ out_X0 G q10 a10) ++ out_X0 G q11 a11) ++ out_X0 G q12 a12)) H := hP
  have hD : va_D (va_A [(b, .inr (3, [.null, .int 0, .int 0, .null, .null]))] s.heap.size) ((b, .inr (3, [.ref q0, .int 0, .int 0, .ref q1, .ref q2])) :: (q0, zB G 15 (va_up (va_up (va_up (va_up (va_up (va_up (va_up (va_up (va_up (va_up (fun _ => none) 0 (some q3)) 1 (some q4)) 2 (some q5)) 3 (some q6)) 4 (some q7)) 5 (some q8)) 6 (some q9)) 7 (some q10)) 8 (some q11)) 9 (some q12))) :: (q1, zB G 3 (fun _ => none)) :: (q2, zZ G 3) :: (((((((((out_X0 G q3 a3 ++ out_X0 G q4 a4) ++ out_X0 G q5 a5) ++ out_X0 G q6 a6) ++ out_X0 G q7 a7) ++ out_X0 G q8 a8) ++ out_X0 G q9 a9) ++ out_X0 G q10 a10) ++ out_X0 G q11 a11) ++ out_X0 G q12 a12)) := hD
  refine lv_iinc (v := (10 : Int32)) (k := 0) (lv' := [(1, .int (10 : Int32)), (0, .ref b)]) hx hb d_X6_init_49 hl rfl (by rfl) (Nat.le_of_ble_eq_true rfl) rfl (fun ls hl => ?_)
  refine lv_goto (tgt := 30) hx hb d_X6_init_52 (by decide) ?_
  refine lv_iload_n hx hb d_X6_init_30 rfl (lv_at hl 0 rfl) ?_
  refine lv_bipush (v := (15 : Int32)) hx hb d_X6_init_31 (by decide) ?_
  refine lv_icmp_ge (tgt := 55) hx hb d_X6_init_33 (by decide) (fun hc => ?_) (fun hc => ?_)
  · exact absurd hc (by decide)
  refine lv_aload_n hx hb d_X6_init_36 rfl (lv_at hl 1 rfl) ?_
  refine g_get (C := "OysterBeds$Past") (T := TX6) (N := 5) (ty := tyX6) (q := q0) 0 0 X ct3 hP rfl (Nat.le_of_ble_eq_true rfl) wd_128 rfl d_X6_init_37 ?_
  refine lv_iload_n hx hb d_X6_init_40 rfl (lv_at hl 0 rfl) ?_
  refine g_new (C := "OysterBeds$Bed") (T := TX0) (N := 8) (ty := tyX0) (fs := [.null, .null, .null, .null, .null, .int 0, .int 0, .int 0]) (rest := [.int (10 : Int32), .ref q0]) (host := "OysterBeds") (out := out_X0 G) X hO hC hgA ct0 hP hD hS hl rfl (by decide) wd_125 wd_65 wd_4 (Or.inl nw_30) wd_67 wd_68 (fun b => c_X0_init hgA) (by intro j hj; rcases j with _ | _ | _ | _ | _ | _ | _ | _ | j <;> first | rfl | omega) ⟨Nat.le_of_ble_eq_true rfl, Nat.le_of_ble_eq_true rfl⟩ (Nat.le_of_ble_eq_true rfl) (Nat.le_of_ble_eq_true rfl) (Nat.le_of_ble_eq_true rfl) d_X6_init_41 d_X6_init_44 d_X6_init_45 (fun q13 a13 H locs hP hD hS => ?_)
  have hP : va_P (gD G) vwCl ((b, .inr (3, [.ref q0, .int 0, .int 0, .ref q1, .ref q2])) :: (q0, zB G 15 (va_up (va_up (va_up (va_up (va_up (va_up (va_up (va_up (va_up (va_up (fun _ => none) 0 (some q3)) 1 (some q4)) 2 (some q5)) 3 (some q6)) 4 (some q7)) 5 (some q8)) 6 (some q9)) 7 (some q10)) 8 (some q11)) 9 (some q12))) :: (q1, zB G 3 (fun _ => none)) :: (q2, zZ G 3) :: ((((((((((out_X0 G q3 a3 ++ out_X0 G q4 a4) ++ out_X0 G q5 a5) ++ out_X0 G q6 a6) ++ out_X0 G q7 a7) ++ out_X0 G q8 a8) ++ out_X0 G q9 a9) ++ out_X0 G q10 a10) ++ out_X0 G q11 a11) ++ out_X0 G q12 a12) ++ out_X0 G q13 a13)) H := hP
  have hD : va_D (va_A [(b, .inr (3, [.null, .int 0, .int 0, .null, .null]))] s.heap.size) ((b, .inr (3, [.ref q0, .int 0, .int 0, .ref q1, .ref q2])) :: (q0, zB G 15 (va_up (va_up (va_up (va_up (va_up (va_up (va_up (va_up (va_up (va_up (fun _ => none) 0 (some q3)) 1 (some q4)) 2 (some q5)) 3 (some q6)) 4 (some q7)) 5 (some q8)) 6 (some q9)) 7 (some q10)) 8 (some q11)) 9 (some q12))) :: (q1, zB G 3 (fun _ => none)) :: (q2, zZ G 3) :: ((((((((((out_X0 G q3 a3 ++ out_X0 G q4 a4) ++ out_X0 G q5 a5) ++ out_X0 G q6 a6) ++ out_X0 G q7 a7) ++ out_X0 G q8 a8) ++ out_X0 G q9 a9) ++ out_X0 G q10 a10) ++ out_X0 G q11 a11) ++ out_X0 G q12 a12) ++ out_X0 G q13 a13)) := hD
  refine g_astq (N := 15) 1 64 X hP hD hS rfl rfl (i := (10 : Int32)) (by decide) d_X6_init_48 (fun H locs hP hD hS => ?_)
  have hP : va_P (gD G) vwCl ((b, .inr (3, [.ref q0, .int 0, .int 0, .ref q1, .ref q2])) :: (q0, zB G 15 (va_up (va_up (va_up (va_up (va_up (va_up (va_up (va_up (va_up (va_up (va_up (fun _ => none) 0 (some q3)) 1 (some q4)) 2 (some q5)) 3 (some q6)) 4 (some q7)) 5 (some q8)) 6 (some q9)) 7 (some q10)) 8 (some q11)) 9 (some q12)) 10 (some q13))) :: (q1, zB G 3 (fun _ => none)) :: (q2, zZ G 3) :: ((((((((((out_X0 G q3 a3 ++ out_X0 G q4 a4) ++ out_X0 G q5 a5) ++ out_X0 G q6 a6) ++ out_X0 G q7 a7) ++ out_X0 G q8 a8) ++ out_X0 G q9 a9) ++ out_X0 G q10 a10) ++ out_X0 G q11 a11) ++ out_X0 G q12 a12) ++ out_X0 G q13 a13)) H := hP
  have hD : va_D (va_A [(b, .inr (3, [.null, .int 0, .int 0, .null, .null]))] s.heap.size) ((b, .inr (3, [.ref q0, .int 0, .int 0, .ref q1, .ref q2])) :: (q0, zB G 15 (va_up (va_up (va_up (va_up (va_up (va_up (va_up (va_up (va_up (va_up (va_up (fun _ => none) 0 (some q3)) 1 (some q4)) 2 (some q5)) 3 (some q6)) 4 (some q7)) 5 (some q8)) 6 (some q9)) 7 (some q10)) 8 (some q11)) 9 (some q12)) 10 (some q13))) :: (q1, zB G 3 (fun _ => none)) :: (q2, zZ G 3) :: ((((((((((out_X0 G q3 a3 ++ out_X0 G q4 a4) ++ out_X0 G q5 a5) ++ out_X0 G q6 a6) ++ out_X0 G q7 a7) ++ out_X0 G q8 a8) ++ out_X0 G q9 a9) ++ out_X0 G q10 a10) ++ out_X0 G q11 a11) ++ out_X0 G q12 a12) ++ out_X0 G q13 a13)) := hD
  refine lv_iinc (v := (11 : Int32)) (k := 0) (lv' := [(1, .int (11 : Int32)), (0, .ref b)]) hx hb d_X6_init_49 hl rfl (by rfl) (Nat.le_of_ble_eq_true rfl) rfl (fun ls hl => ?_)
  refine lv_goto (tgt := 30) hx hb d_X6_init_52 (by decide) ?_
  refine lv_iload_n hx hb d_X6_init_30 rfl (lv_at hl 0 rfl) ?_
  refine lv_bipush (v := (15 : Int32)) hx hb d_X6_init_31 (by decide) ?_
  refine lv_icmp_ge (tgt := 55) hx hb d_X6_init_33 (by decide) (fun hc => ?_) (fun hc => ?_)
  · exact absurd hc (by decide)
  refine lv_aload_n hx hb d_X6_init_36 rfl (lv_at hl 1 rfl) ?_
  refine g_get (C := "OysterBeds$Past") (T := TX6) (N := 5) (ty := tyX6) (q := q0) 0 0 X ct3 hP rfl (Nat.le_of_ble_eq_true rfl) wd_128 rfl d_X6_init_37 ?_
  refine lv_iload_n hx hb d_X6_init_40 rfl (lv_at hl 0 rfl) ?_
  refine g_new (C := "OysterBeds$Bed") (T := TX0) (N := 8) (ty := tyX0) (fs := [.null, .null, .null, .null, .null, .int 0, .int 0, .int 0]) (rest := [.int (11 : Int32), .ref q0]) (host := "OysterBeds") (out := out_X0 G) X hO hC hgA ct0 hP hD hS hl rfl (by decide) wd_125 wd_65 wd_4 (Or.inl nw_30) wd_67 wd_68 (fun b => c_X0_init hgA) (by intro j hj; rcases j with _ | _ | _ | _ | _ | _ | _ | _ | j <;> first | rfl | omega) ⟨Nat.le_of_ble_eq_true rfl, Nat.le_of_ble_eq_true rfl⟩ (Nat.le_of_ble_eq_true rfl) (Nat.le_of_ble_eq_true rfl) (Nat.le_of_ble_eq_true rfl) d_X6_init_41 d_X6_init_44 d_X6_init_45 (fun q14 a14 H locs hP hD hS => ?_)
  have hP : va_P (gD G) vwCl ((b, .inr (3, [.ref q0, .int 0, .int 0, .ref q1, .ref q2])) :: (q0, zB G 15 (va_up (va_up (va_up (va_up (va_up (va_up (va_up (va_up (va_up (va_up (va_up (fun _ => none) 0 (some q3)) 1 (some q4)) 2 (some q5)) 3 (some q6)) 4 (some q7)) 5 (some q8)) 6 (some q9)) 7 (some q10)) 8 (some q11)) 9 (some q12)) 10 (some q13))) :: (q1, zB G 3 (fun _ => none)) :: (q2, zZ G 3) :: (((((((((((out_X0 G q3 a3 ++ out_X0 G q4 a4) ++ out_X0 G q5 a5) ++ out_X0 G q6 a6) ++ out_X0 G q7 a7) ++ out_X0 G q8 a8) ++ out_X0 G q9 a9) ++ out_X0 G q10 a10) ++ out_X0 G q11 a11) ++ out_X0 G q12 a12) ++ out_X0 G q13 a13) ++ out_X0 G q14 a14)) H := hP
  have hD : va_D (va_A [(b, .inr (3, [.null, .int 0, .int 0, .null, .null]))] s.heap.size) ((b, .inr (3, [.ref q0, .int 0, .int 0, .ref q1, .ref q2])) :: (q0, zB G 15 (va_up (va_up (va_up (va_up (va_up (va_up (va_up (va_up (va_up (va_up (va_up (fun _ => none) 0 (some q3)) 1 (some q4)) 2 (some q5)) 3 (some q6)) 4 (some q7)) 5 (some q8)) 6 (some q9)) 7 (some q10)) 8 (some q11)) 9 (some q12)) 10 (some q13))) :: (q1, zB G 3 (fun _ => none)) :: (q2, zZ G 3) :: (((((((((((out_X0 G q3 a3 ++ out_X0 G q4 a4) ++ out_X0 G q5 a5) ++ out_X0 G q6 a6) ++ out_X0 G q7 a7) ++ out_X0 G q8 a8) ++ out_X0 G q9 a9) ++ out_X0 G q10 a10) ++ out_X0 G q11 a11) ++ out_X0 G q12 a12) ++ out_X0 G q13 a13) ++ out_X0 G q14 a14)) := hD
  refine g_astq (N := 15) 1 70 X hP hD hS rfl rfl (i := (11 : Int32)) (by decide) d_X6_init_48 (fun H locs hP hD hS => ?_)
  have hP : va_P (gD G) vwCl ((b, .inr (3, [.ref q0, .int 0, .int 0, .ref q1, .ref q2])) :: (q0, zB G 15 (va_up (va_up (va_up (va_up (va_up (va_up (va_up (va_up (va_up (va_up (va_up (va_up (fun _ => none) 0 (some q3)) 1 (some q4)) 2 (some q5)) 3 (some q6)) 4 (some q7)) 5 (some q8)) 6 (some q9)) 7 (some q10)) 8 (some q11)) 9 (some q12)) 10 (some q13)) 11 (some q14))) :: (q1, zB G 3 (fun _ => none)) :: (q2, zZ G 3) :: (((((((((((out_X0 G q3 a3 ++ out_X0 G q4 a4) ++ out_X0 G q5 a5) ++ out_X0 G q6 a6) ++ out_X0 G q7 a7) ++ out_X0 G q8 a8) ++ out_X0 G q9 a9) ++ out_X0 G q10 a10) ++ out_X0 G q11 a11) ++ out_X0 G q12 a12) ++ out_X0 G q13 a13) ++ out_X0 G q14 a14)) H := hP
  have hD : va_D (va_A [(b, .inr (3, [.null, .int 0, .int 0, .null, .null]))] s.heap.size) ((b, .inr (3, [.ref q0, .int 0, .int 0, .ref q1, .ref q2])) :: (q0, zB G 15 (va_up (va_up (va_up (va_up (va_up (va_up (va_up (va_up (va_up (va_up (va_up (va_up (fun _ => none) 0 (some q3)) 1 (some q4)) 2 (some q5)) 3 (some q6)) 4 (some q7)) 5 (some q8)) 6 (some q9)) 7 (some q10)) 8 (some q11)) 9 (some q12)) 10 (some q13)) 11 (some q14))) :: (q1, zB G 3 (fun _ => none)) :: (q2, zZ G 3) :: (((((((((((out_X0 G q3 a3 ++ out_X0 G q4 a4) ++ out_X0 G q5 a5) ++ out_X0 G q6 a6) ++ out_X0 G q7 a7) ++ out_X0 G q8 a8) ++ out_X0 G q9 a9) ++ out_X0 G q10 a10) ++ out_X0 G q11 a11) ++ out_X0 G q12 a12) ++ out_X0 G q13 a13) ++ out_X0 G q14 a14)) := hD
  refine lv_iinc (v := (12 : Int32)) (k := 0) (lv' := [(1, .int (12 : Int32)), (0, .ref b)]) hx hb d_X6_init_49 hl rfl (by rfl) (Nat.le_of_ble_eq_true rfl) rfl (fun ls hl => ?_)
  refine lv_goto (tgt := 30) hx hb d_X6_init_52 (by decide) ?_
  refine lv_iload_n hx hb d_X6_init_30 rfl (lv_at hl 0 rfl) ?_
  refine lv_bipush (v := (15 : Int32)) hx hb d_X6_init_31 (by decide) ?_
  refine lv_icmp_ge (tgt := 55) hx hb d_X6_init_33 (by decide) (fun hc => ?_) (fun hc => ?_)
  · exact absurd hc (by decide)
  refine lv_aload_n hx hb d_X6_init_36 rfl (lv_at hl 1 rfl) ?_
  refine g_get (C := "OysterBeds$Past") (T := TX6) (N := 5) (ty := tyX6) (q := q0) 0 0 X ct3 hP rfl (Nat.le_of_ble_eq_true rfl) wd_128 rfl d_X6_init_37 ?_
  refine lv_iload_n hx hb d_X6_init_40 rfl (lv_at hl 0 rfl) ?_
  refine g_new (C := "OysterBeds$Bed") (T := TX0) (N := 8) (ty := tyX0) (fs := [.null, .null, .null, .null, .null, .int 0, .int 0, .int 0]) (rest := [.int (12 : Int32), .ref q0]) (host := "OysterBeds") (out := out_X0 G) X hO hC hgA ct0 hP hD hS hl rfl (by decide) wd_125 wd_65 wd_4 (Or.inl nw_30) wd_67 wd_68 (fun b => c_X0_init hgA) (by intro j hj; rcases j with _ | _ | _ | _ | _ | _ | _ | _ | j <;> first | rfl | omega) ⟨Nat.le_of_ble_eq_true rfl, Nat.le_of_ble_eq_true rfl⟩ (Nat.le_of_ble_eq_true rfl) (Nat.le_of_ble_eq_true rfl) (Nat.le_of_ble_eq_true rfl) d_X6_init_41 d_X6_init_44 d_X6_init_45 (fun q15 a15 H locs hP hD hS => ?_)
  have hP : va_P (gD G) vwCl ((b, .inr (3, [.ref q0, .int 0, .int 0, .ref q1, .ref q2])) :: (q0, zB G 15 (va_up (va_up (va_up (va_up (va_up (va_up (va_up (va_up (va_up (va_up (va_up (va_up (fun _ => none) 0 (some q3)) 1 (some q4)) 2 (some q5)) 3 (some q6)) 4 (some q7)) 5 (some q8)) 6 (some q9)) 7 (some q10)) 8 (some q11)) 9 (some q12)) 10 (some q13)) 11 (some q14))) :: (q1, zB G 3 (fun _ => none)) :: (q2, zZ G 3) :: ((((((((((((out_X0 G q3 a3 ++ out_X0 G q4 a4) ++ out_X0 G q5 a5) ++ out_X0 G q6 a6) ++ out_X0 G q7 a7) ++ out_X0 G q8 a8) ++ out_X0 G q9 a9) ++ out_X0 G q10 a10) ++ out_X0 G q11 a11) ++ out_X0 G q12 a12) ++ out_X0 G q13 a13) ++ out_X0 G q14 a14) ++ out_X0 G q15 a15)) H := hP
  have hD : va_D (va_A [(b, .inr (3, [.null, .int 0, .int 0, .null, .null]))] s.heap.size) ((b, .inr (3, [.ref q0, .int 0, .int 0, .ref q1, .ref q2])) :: (q0, zB G 15 (va_up (va_up (va_up (va_up (va_up (va_up (va_up (va_up (va_up (va_up (va_up (va_up (fun _ => none) 0 (some q3)) 1 (some q4)) 2 (some q5)) 3 (some q6)) 4 (some q7)) 5 (some q8)) 6 (some q9)) 7 (some q10)) 8 (some q11)) 9 (some q12)) 10 (some q13)) 11 (some q14))) :: (q1, zB G 3 (fun _ => none)) :: (q2, zZ G 3) :: ((((((((((((out_X0 G q3 a3 ++ out_X0 G q4 a4) ++ out_X0 G q5 a5) ++ out_X0 G q6 a6) ++ out_X0 G q7 a7) ++ out_X0 G q8 a8) ++ out_X0 G q9 a9) ++ out_X0 G q10 a10) ++ out_X0 G q11 a11) ++ out_X0 G q12 a12) ++ out_X0 G q13 a13) ++ out_X0 G q14 a14) ++ out_X0 G q15 a15)) := hD
  refine g_astq (N := 15) 1 76 X hP hD hS rfl rfl (i := (12 : Int32)) (by decide) d_X6_init_48 (fun H locs hP hD hS => ?_)
  have hP : va_P (gD G) vwCl ((b, .inr (3, [.ref q0, .int 0, .int 0, .ref q1, .ref q2])) :: (q0, zB G 15 (va_up (va_up (va_up (va_up (va_up (va_up (va_up (va_up (va_up (va_up (va_up (va_up (va_up (fun _ => none) 0 (some q3)) 1 (some q4)) 2 (some q5)) 3 (some q6)) 4 (some q7)) 5 (some q8)) 6 (some q9)) 7 (some q10)) 8 (some q11)) 9 (some q12)) 10 (some q13)) 11 (some q14)) 12 (some q15))) :: (q1, zB G 3 (fun _ => none)) :: (q2, zZ G 3) :: ((((((((((((out_X0 G q3 a3 ++ out_X0 G q4 a4) ++ out_X0 G q5 a5) ++ out_X0 G q6 a6) ++ out_X0 G q7 a7) ++ out_X0 G q8 a8) ++ out_X0 G q9 a9) ++ out_X0 G q10 a10) ++ out_X0 G q11 a11) ++ out_X0 G q12 a12) ++ out_X0 G q13 a13) ++ out_X0 G q14 a14) ++ out_X0 G q15 a15)) H := hP
  have hD : va_D (va_A [(b, .inr (3, [.null, .int 0, .int 0, .null, .null]))] s.heap.size) ((b, .inr (3, [.ref q0, .int 0, .int 0, .ref q1, .ref q2])) :: (q0, zB G 15 (va_up (va_up (va_up (va_up (va_up (va_up (va_up (va_up (va_up (va_up (va_up (va_up (va_up (fun _ => none) 0 (some q3)) 1 (some q4)) 2 (some q5)) 3 (some q6)) 4 (some q7)) 5 (some q8)) 6 (some q9)) 7 (some q10)) 8 (some q11)) 9 (some q12)) 10 (some q13)) 11 (some q14)) 12 (some q15))) :: (q1, zB G 3 (fun _ => none)) :: (q2, zZ G 3) :: ((((((((((((out_X0 G q3 a3 ++ out_X0 G q4 a4) ++ out_X0 G q5 a5) ++ out_X0 G q6 a6) ++ out_X0 G q7 a7) ++ out_X0 G q8 a8) ++ out_X0 G q9 a9) ++ out_X0 G q10 a10) ++ out_X0 G q11 a11) ++ out_X0 G q12 a12) ++ out_X0 G q13 a13) ++ out_X0 G q14 a14) ++ out_X0 G q15 a15)) := hD
  refine lv_iinc (v := (13 : Int32)) (k := 0) (lv' := [(1, .int (13 : Int32)), (0, .ref b)]) hx hb d_X6_init_49 hl rfl (by rfl) (Nat.le_of_ble_eq_true rfl) rfl (fun ls hl => ?_)
  refine lv_goto (tgt := 30) hx hb d_X6_init_52 (by decide) ?_
  refine lv_iload_n hx hb d_X6_init_30 rfl (lv_at hl 0 rfl) ?_
  refine lv_bipush (v := (15 : Int32)) hx hb d_X6_init_31 (by decide) ?_
  refine lv_icmp_ge (tgt := 55) hx hb d_X6_init_33 (by decide) (fun hc => ?_) (fun hc => ?_)
  · exact absurd hc (by decide)
  refine lv_aload_n hx hb d_X6_init_36 rfl (lv_at hl 1 rfl) ?_
  refine g_get (C := "OysterBeds$Past") (T := TX6) (N := 5) (ty := tyX6) (q := q0) 0 0 X ct3 hP rfl (Nat.le_of_ble_eq_true rfl) wd_128 rfl d_X6_init_37 ?_
  refine lv_iload_n hx hb d_X6_init_40 rfl (lv_at hl 0 rfl) ?_
  refine g_new (C := "OysterBeds$Bed") (T := TX0) (N := 8) (ty := tyX0) (fs := [.null, .null, .null, .null, .null, .int 0, .int 0, .int 0]) (rest := [.int (13 : Int32), .ref q0]) (host := "OysterBeds") (out := out_X0 G) X hO hC hgA ct0 hP hD hS hl rfl (by decide) wd_125 wd_65 wd_4 (Or.inl nw_30) wd_67 wd_68 (fun b => c_X0_init hgA) (by intro j hj; rcases j with _ | _ | _ | _ | _ | _ | _ | _ | j <;> first | rfl | omega) ⟨Nat.le_of_ble_eq_true rfl, Nat.le_of_ble_eq_true rfl⟩ (Nat.le_of_ble_eq_true rfl) (Nat.le_of_ble_eq_true rfl) (Nat.le_of_ble_eq_true rfl) d_X6_init_41 d_X6_init_44 d_X6_init_45 (fun q16 a16 H locs hP hD hS => ?_)
  have hP : va_P (gD G) vwCl ((b, .inr (3, [.ref q0, .int 0, .int 0, .ref q1, .ref q2])) :: (q0, zB G 15 (va_up (va_up (va_up (va_up (va_up (va_up (va_up (va_up (va_up (va_up (va_up (va_up (va_up (fun _ => none) 0 (some q3)) 1 (some q4)) 2 (some q5)) 3 (some q6)) 4 (some q7)) 5 (some q8)) 6 (some q9)) 7 (some q10)) 8 (some q11)) 9 (some q12)) 10 (some q13)) 11 (some q14)) 12 (some q15))) :: (q1, zB G 3 (fun _ => none)) :: (q2, zZ G 3) :: (((((((((((((out_X0 G q3 a3 ++ out_X0 G q4 a4) ++ out_X0 G q5 a5) ++ out_X0 G q6 a6) ++ out_X0 G q7 a7) ++ out_X0 G q8 a8) ++ out_X0 G q9 a9) ++ out_X0 G q10 a10) ++ out_X0 G q11 a11) ++ out_X0 G q12 a12) ++ out_X0 G q13 a13) ++ out_X0 G q14 a14) ++ out_X0 G q15 a15) ++ out_X0 G q16 a16)) H := hP
  have hD : va_D (va_A [(b, .inr (3, [.null, .int 0, .int 0, .null, .null]))] s.heap.size) ((b, .inr (3, [.ref q0, .int 0, .int 0, .ref q1, .ref q2])) :: (q0, zB G 15 (va_up (va_up (va_up (va_up (va_up (va_up (va_up (va_up (va_up (va_up (va_up (va_up (va_up (fun _ => none) 0 (some q3)) 1 (some q4)) 2 (some q5)) 3 (some q6)) 4 (some q7)) 5 (some q8)) 6 (some q9)) 7 (some q10)) 8 (some q11)) 9 (some q12)) 10 (some q13)) 11 (some q14)) 12 (some q15))) :: (q1, zB G 3 (fun _ => none)) :: (q2, zZ G 3) :: (((((((((((((out_X0 G q3 a3 ++ out_X0 G q4 a4) ++ out_X0 G q5 a5) ++ out_X0 G q6 a6) ++ out_X0 G q7 a7) ++ out_X0 G q8 a8) ++ out_X0 G q9 a9) ++ out_X0 G q10 a10) ++ out_X0 G q11 a11) ++ out_X0 G q12 a12) ++ out_X0 G q13 a13) ++ out_X0 G q14 a14) ++ out_X0 G q15 a15) ++ out_X0 G q16 a16)) := hD
  refine g_astq (N := 15) 1 82 X hP hD hS rfl rfl (i := (13 : Int32)) (by decide) d_X6_init_48 (fun H locs hP hD hS => ?_)
  have hP : va_P (gD G) vwCl ((b, .inr (3, [.ref q0, .int 0, .int 0, .ref q1, .ref q2])) :: (q0, zB G 15 (va_up (va_up (va_up (va_up (va_up (va_up (va_up (va_up (va_up (va_up (va_up (va_up (va_up (va_up (fun _ => none) 0 (some q3)) 1 (some q4)) 2 (some q5)) 3 (some q6)) 4 (some q7)) 5 (some q8)) 6 (some q9)) 7 (some q10)) 8 (some q11)) 9 (some q12)) 10 (some q13)) 11 (some q14)) 12 (some q15)) 13 (some q16))) :: (q1, zB G 3 (fun _ => none)) :: (q2, zZ G 3) :: (((((((((((((out_X0 G q3 a3 ++ out_X0 G q4 a4) ++ out_X0 G q5 a5) ++ out_X0 G q6 a6) ++ out_X0 G q7 a7) ++ out_X0 G q8 a8) ++ out_X0 G q9 a9) ++ out_X0 G q10 a10) ++ out_X0 G q11 a11) ++ out_X0 G q12 a12) ++ out_X0 G q13 a13) ++ out_X0 G q14 a14) ++ out_X0 G q15 a15) ++ out_X0 G q16 a16)) H := hP
  have hD : va_D (va_A [(b, .inr (3, [.null, .int 0, .int 0, .null, .null]))] s.heap.size) ((b, .inr (3, [.ref q0, .int 0, .int 0, .ref q1, .ref q2])) :: (q0, zB G 15 (va_up (va_up (va_up (va_up (va_up (va_up (va_up (va_up (va_up (va_up (va_up (va_up (va_up (va_up (fun _ => none) 0 (some q3)) 1 (some q4)) 2 (some q5)) 3 (some q6)) 4 (some q7)) 5 (some q8)) 6 (some q9)) 7 (some q10)) 8 (some q11)) 9 (some q12)) 10 (some q13)) 11 (some q14)) 12 (some q15)) 13 (some q16))) :: (q1, zB G 3 (fun _ => none)) :: (q2, zZ G 3) :: (((((((((((((out_X0 G q3 a3 ++ out_X0 G q4 a4) ++ out_X0 G q5 a5) ++ out_X0 G q6 a6) ++ out_X0 G q7 a7) ++ out_X0 G q8 a8) ++ out_X0 G q9 a9) ++ out_X0 G q10 a10) ++ out_X0 G q11 a11) ++ out_X0 G q12 a12) ++ out_X0 G q13 a13) ++ out_X0 G q14 a14) ++ out_X0 G q15 a15) ++ out_X0 G q16 a16)) := hD
  refine lv_iinc (v := (14 : Int32)) (k := 0) (lv' := [(1, .int (14 : Int32)), (0, .ref b)]) hx hb d_X6_init_49 hl rfl (by rfl) (Nat.le_of_ble_eq_true rfl) rfl (fun ls hl => ?_)
  refine lv_goto (tgt := 30) hx hb d_X6_init_52 (by decide) ?_
  refine lv_iload_n hx hb d_X6_init_30 rfl (lv_at hl 0 rfl) ?_
  refine lv_bipush (v := (15 : Int32)) hx hb d_X6_init_31 (by decide) ?_
  refine lv_icmp_ge (tgt := 55) hx hb d_X6_init_33 (by decide) (fun hc => ?_) (fun hc => ?_)
  · exact absurd hc (by decide)
  refine lv_aload_n hx hb d_X6_init_36 rfl (lv_at hl 1 rfl) ?_
  refine g_get (C := "OysterBeds$Past") (T := TX6) (N := 5) (ty := tyX6) (q := q0) 0 0 X ct3 hP rfl (Nat.le_of_ble_eq_true rfl) wd_128 rfl d_X6_init_37 ?_
  refine lv_iload_n hx hb d_X6_init_40 rfl (lv_at hl 0 rfl) ?_
  refine g_new (C := "OysterBeds$Bed") (T := TX0) (N := 8) (ty := tyX0) (fs := [.null, .null, .null, .null, .null, .int 0, .int 0, .int 0]) (rest := [.int (14 : Int32), .ref q0]) (host := "OysterBeds") (out := out_X0 G) X hO hC hgA ct0 hP hD hS hl rfl (by decide) wd_125 wd_65 wd_4 (Or.inl nw_30) wd_67 wd_68 (fun b => c_X0_init hgA) (by intro j hj; rcases j with _ | _ | _ | _ | _ | _ | _ | _ | j <;> first | rfl | omega) ⟨Nat.le_of_ble_eq_true rfl, Nat.le_of_ble_eq_true rfl⟩ (Nat.le_of_ble_eq_true rfl) (Nat.le_of_ble_eq_true rfl) (Nat.le_of_ble_eq_true rfl) d_X6_init_41 d_X6_init_44 d_X6_init_45 (fun q17 a17 H locs hP hD hS => ?_)
  have hP : va_P (gD G) vwCl ((b, .inr (3, [.ref q0, .int 0, .int 0, .ref q1, .ref q2])) :: (q0, zB G 15 (va_up (va_up (va_up (va_up (va_up (va_up (va_up (va_up (va_up (va_up (va_up (va_up (va_up (va_up (fun _ => none) 0 (some q3)) 1 (some q4)) 2 (some q5)) 3 (some q6)) 4 (some q7)) 5 (some q8)) 6 (some q9)) 7 (some q10)) 8 (some q11)) 9 (some q12)) 10 (some q13)) 11 (some q14)) 12 (some q15)) 13 (some q16))) :: (q1, zB G 3 (fun _ => none)) :: (q2, zZ G 3) :: ((((((((((((((out_X0 G q3 a3 ++ out_X0 G q4 a4) ++ out_X0 G q5 a5) ++ out_X0 G q6 a6) ++ out_X0 G q7 a7) ++ out_X0 G q8 a8) ++ out_X0 G q9 a9) ++ out_X0 G q10 a10) ++ out_X0 G q11 a11) ++ out_X0 G q12 a12) ++ out_X0 G q13 a13) ++ out_X0 G q14 a14) ++ out_X0 G q15 a15) ++ out_X0 G q16 a16) ++ out_X0 G q17 a17)) H := hP
  have hD : va_D (va_A [(b, .inr (3, [.null, .int 0, .int 0, .null, .null]))] s.heap.size) ((b, .inr (3, [.ref q0, .int 0, .int 0, .ref q1, .ref q2])) :: (q0, zB G 15 (va_up (va_up (va_up (va_up (va_up (va_up (va_up (va_up (va_up (va_up (va_up (va_up (va_up (va_up (fun _ => none) 0 (some q3)) 1 (some q4)) 2 (some q5)) 3 (some q6)) 4 (some q7)) 5 (some q8)) 6 (some q9)) 7 (some q10)) 8 (some q11)) 9 (some q12)) 10 (some q13)) 11 (some q14)) 12 (some q15)) 13 (some q16))) :: (q1, zB G 3 (fun _ => none)) :: (q2, zZ G 3) :: ((((((((((((((out_X0 G q3 a3 ++ out_X0 G q4 a4) ++ out_X0 G q5 a5) ++ out_X0 G q6 a6) ++ out_X0 G q7 a7) ++ out_X0 G q8 a8) ++ out_X0 G q9 a9) ++ out_X0 G q10 a10) ++ out_X0 G q11 a11) ++ out_X0 G q12 a12) ++ out_X0 G q13 a13) ++ out_X0 G q14 a14) ++ out_X0 G q15 a15) ++ out_X0 G q16 a16) ++ out_X0 G q17 a17)) := hD
  refine g_astq (N := 15) 1 88 X hP hD hS rfl rfl (i := (14 : Int32)) (by decide) d_X6_init_48 (fun H locs hP hD hS => ?_)
  have hP : va_P (gD G) vwCl ((b, .inr (3, [.ref q0, .int 0, .int 0, .ref q1, .ref q2])) :: (q0, zB G 15 (va_up (va_up (va_up (va_up (va_up (va_up (va_up (va_up (va_up (va_up (va_up (va_up (va_up (va_up (va_up (fun _ => none) 0 (some q3)) 1 (some q4)) 2 (some q5)) 3 (some q6)) 4 (some q7)) 5 (some q8)) 6 (some q9)) 7 (some q10)) 8 (some q11)) 9 (some q12)) 10 (some q13)) 11 (some q14)) 12 (some q15)) 13 (some q16)) 14 (some q17))) :: (q1, zB G 3 (fun _ => none)) :: (q2, zZ G 3) :: ((((((((((((((out_X0 G q3 a3 ++ out_X0 G q4 a4) ++ out_X0 G q5 a5) ++ out_X0 G q6 a6) ++ out_X0 G q7 a7) ++ out_X0 G q8 a8) ++ out_X0 G q9 a9) ++ out_X0 G q10 a10) ++ out_X0 G q11 a11) ++ out_X0 G q12 a12) ++ out_X0 G q13 a13) ++ out_X0 G q14 a14) ++ out_X0 G q15 a15) ++ out_X0 G q16 a16) ++ out_X0 G q17 a17)) H := hP
  have hD : va_D (va_A [(b, .inr (3, [.null, .int 0, .int 0, .null, .null]))] s.heap.size) ((b, .inr (3, [.ref q0, .int 0, .int 0, .ref q1, .ref q2])) :: (q0, zB G 15 (va_up (va_up (va_up (va_up (va_up (va_up (va_up (va_up (va_up (va_up (va_up (va_up (va_up (va_up (va_up (fun _ => none) 0 (some q3)) 1 (some q4)) 2 (some q5)) 3 (some q6)) 4 (some q7)) 5 (some q8)) 6 (some q9)) 7 (some q10)) 8 (some q11)) 9 (some q12)) 10 (some q13)) 11 (some q14)) 12 (some q15)) 13 (some q16)) 14 (some q17))) :: (q1, zB G 3 (fun _ => none)) :: (q2, zZ G 3) :: ((((((((((((((out_X0 G q3 a3 ++ out_X0 G q4 a4) ++ out_X0 G q5 a5) ++ out_X0 G q6 a6) ++ out_X0 G q7 a7) ++ out_X0 G q8 a8) ++ out_X0 G q9 a9) ++ out_X0 G q10 a10) ++ out_X0 G q11 a11) ++ out_X0 G q12 a12) ++ out_X0 G q13 a13) ++ out_X0 G q14 a14) ++ out_X0 G q15 a15) ++ out_X0 G q16 a16) ++ out_X0 G q17 a17)) := hD
  refine lv_iinc (v := (15 : Int32)) (k := 0) (lv' := [(1, .int (15 : Int32)), (0, .ref b)]) hx hb d_X6_init_49 hl rfl (by rfl) (Nat.le_of_ble_eq_true rfl) rfl (fun ls hl => ?_)
  refine lv_goto (tgt := 30) hx hb d_X6_init_52 (by decide) ?_
  refine lv_iload_n hx hb d_X6_init_30 rfl (lv_at hl 0 rfl) ?_
  refine lv_bipush (v := (15 : Int32)) hx hb d_X6_init_31 (by decide) ?_
  refine lv_icmp_ge (tgt := 55) hx hb d_X6_init_33 (by decide) (fun hc => ?_) (fun hc => ?_)
  rotate_left
  · exact absurd (by decide) hc
  refine lv_iconst (v := (0 : Int32)) hx hb d_X6_init_55 (by decide) ?_
  refine lv_istore_n (lv' := [(1, .int (0 : Int32)), (0, .ref b)]) hx hb d_X6_init_56 rfl hl (Nat.le_of_ble_eq_true rfl) rfl (fun ls hl => ?_)
  refine lv_iload_n hx hb d_X6_init_57 rfl (lv_at hl 0 rfl) ?_
  refine lv_iconst (v := (3 : Int32)) hx hb d_X6_init_58 (by decide) ?_
  refine lv_icmp_ge (tgt := 81) hx hb d_X6_init_59 (by decide) (fun hc => ?_) (fun hc => ?_)
  · exact absurd hc (by decide)
  refine lv_aload_n hx hb d_X6_init_62 rfl (lv_at hl 1 rfl) ?_
  refine g_get (C := "OysterBeds$Past") (T := TX6) (N := 5) (ty := tyX6) (q := q1) 0 3 X ct3 hP rfl (Nat.le_of_ble_eq_true rfl) wd_132 rfl d_X6_init_63 ?_
  refine lv_iload_n hx hb d_X6_init_66 rfl (lv_at hl 0 rfl) ?_
  refine g_new (C := "OysterBeds$Bed") (T := TX0) (N := 8) (ty := tyX0) (fs := [.null, .null, .null, .null, .null, .int 0, .int 0, .int 0]) (rest := [.int (0 : Int32), .ref q1]) (host := "OysterBeds") (out := out_X0 G) X hO hC hgA ct0 hP hD hS hl rfl (by decide) wd_125 wd_65 wd_4 (Or.inl nw_30) wd_67 wd_68 (fun b => c_X0_init hgA) (by intro j hj; rcases j with _ | _ | _ | _ | _ | _ | _ | _ | j <;> first | rfl | omega) ⟨Nat.le_of_ble_eq_true rfl, Nat.le_of_ble_eq_true rfl⟩ (Nat.le_of_ble_eq_true rfl) (Nat.le_of_ble_eq_true rfl) (Nat.le_of_ble_eq_true rfl) d_X6_init_67 d_X6_init_70 d_X6_init_71 (fun q18 a18 H locs hP hD hS => ?_)
  have hP : va_P (gD G) vwCl ((b, .inr (3, [.ref q0, .int 0, .int 0, .ref q1, .ref q2])) :: (q0, zB G 15 (va_up (va_up (va_up (va_up (va_up (va_up (va_up (va_up (va_up (va_up (va_up (va_up (va_up (va_up (va_up (fun _ => none) 0 (some q3)) 1 (some q4)) 2 (some q5)) 3 (some q6)) 4 (some q7)) 5 (some q8)) 6 (some q9)) 7 (some q10)) 8 (some q11)) 9 (some q12)) 10 (some q13)) 11 (some q14)) 12 (some q15)) 13 (some q16)) 14 (some q17))) :: (q1, zB G 3 (fun _ => none)) :: (q2, zZ G 3) :: (((((((((((((((out_X0 G q3 a3 ++ out_X0 G q4 a4) ++ out_X0 G q5 a5) ++ out_X0 G q6 a6) ++ out_X0 G q7 a7) ++ out_X0 G q8 a8) ++ out_X0 G q9 a9) ++ out_X0 G q10 a10) ++ out_X0 G q11 a11) ++ out_X0 G q12 a12) ++ out_X0 G q13 a13) ++ out_X0 G q14 a14) ++ out_X0 G q15 a15) ++ out_X0 G q16 a16) ++ out_X0 G q17 a17) ++ out_X0 G q18 a18)) H := hP
  have hD : va_D (va_A [(b, .inr (3, [.null, .int 0, .int 0, .null, .null]))] s.heap.size) ((b, .inr (3, [.ref q0, .int 0, .int 0, .ref q1, .ref q2])) :: (q0, zB G 15 (va_up (va_up (va_up (va_up (va_up (va_up (va_up (va_up (va_up (va_up (va_up (va_up (va_up (va_up (va_up (fun _ => none) 0 (some q3)) 1 (some q4)) 2 (some q5)) 3 (some q6)) 4 (some q7)) 5 (some q8)) 6 (some q9)) 7 (some q10)) 8 (some q11)) 9 (some q12)) 10 (some q13)) 11 (some q14)) 12 (some q15)) 13 (some q16)) 14 (some q17))) :: (q1, zB G 3 (fun _ => none)) :: (q2, zZ G 3) :: (((((((((((((((out_X0 G q3 a3 ++ out_X0 G q4 a4) ++ out_X0 G q5 a5) ++ out_X0 G q6 a6) ++ out_X0 G q7 a7) ++ out_X0 G q8 a8) ++ out_X0 G q9 a9) ++ out_X0 G q10 a10) ++ out_X0 G q11 a11) ++ out_X0 G q12 a12) ++ out_X0 G q13 a13) ++ out_X0 G q14 a14) ++ out_X0 G q15 a15) ++ out_X0 G q16 a16) ++ out_X0 G q17 a17) ++ out_X0 G q18 a18)) := hD
  refine g_astq (N := 3) 2 94 X hP hD hS rfl rfl (i := (0 : Int32)) (by decide) d_X6_init_74 (fun H locs hP hD hS => ?_)
  have hP : va_P (gD G) vwCl ((b, .inr (3, [.ref q0, .int 0, .int 0, .ref q1, .ref q2])) :: (q0, zB G 15 (va_up (va_up (va_up (va_up (va_up (va_up (va_up (va_up (va_up (va_up (va_up (va_up (va_up (va_up (va_up (fun _ => none) 0 (some q3)) 1 (some q4)) 2 (some q5)) 3 (some q6)) 4 (some q7)) 5 (some q8)) 6 (some q9)) 7 (some q10)) 8 (some q11)) 9 (some q12)) 10 (some q13)) 11 (some q14)) 12 (some q15)) 13 (some q16)) 14 (some q17))) :: (q1, zB G 3 (va_up (fun _ => none) 0 (some q18))) :: (q2, zZ G 3) :: (((((((((((((((out_X0 G q3 a3 ++ out_X0 G q4 a4) ++ out_X0 G q5 a5) ++ out_X0 G q6 a6) ++ out_X0 G q7 a7) ++ out_X0 G q8 a8) ++ out_X0 G q9 a9) ++ out_X0 G q10 a10) ++ out_X0 G q11 a11) ++ out_X0 G q12 a12) ++ out_X0 G q13 a13) ++ out_X0 G q14 a14) ++ out_X0 G q15 a15) ++ out_X0 G q16 a16) ++ out_X0 G q17 a17) ++ out_X0 G q18 a18)) H := hP
  have hD : va_D (va_A [(b, .inr (3, [.null, .int 0, .int 0, .null, .null]))] s.heap.size) ((b, .inr (3, [.ref q0, .int 0, .int 0, .ref q1, .ref q2])) :: (q0, zB G 15 (va_up (va_up (va_up (va_up (va_up (va_up (va_up (va_up (va_up (va_up (va_up (va_up (va_up (va_up (va_up (fun _ => none) 0 (some q3)) 1 (some q4)) 2 (some q5)) 3 (some q6)) 4 (some q7)) 5 (some q8)) 6 (some q9)) 7 (some q10)) 8 (some q11)) 9 (some q12)) 10 (some q13)) 11 (some q14)) 12 (some q15)) 13 (some q16)) 14 (some q17))) :: (q1, zB G 3 (va_up (fun _ => none) 0 (some q18))) :: (q2, zZ G 3) :: (((((((((((((((out_X0 G q3 a3 ++ out_X0 G q4 a4) ++ out_X0 G q5 a5) ++ out_X0 G q6 a6) ++ out_X0 G q7 a7) ++ out_X0 G q8 a8) ++ out_X0 G q9 a9) ++ out_X0 G q10 a10) ++ out_X0 G q11 a11) ++ out_X0 G q12 a12) ++ out_X0 G q13 a13) ++ out_X0 G q14 a14) ++ out_X0 G q15 a15) ++ out_X0 G q16 a16) ++ out_X0 G q17 a17) ++ out_X0 G q18 a18)) := hD
  refine lv_iinc (v := (1 : Int32)) (k := 0) (lv' := [(1, .int (1 : Int32)), (0, .ref b)]) hx hb d_X6_init_75 hl rfl (by rfl) (Nat.le_of_ble_eq_true rfl) rfl (fun ls hl => ?_)
  refine lv_goto (tgt := 57) hx hb d_X6_init_78 (by decide) ?_
  refine lv_iload_n hx hb d_X6_init_57 rfl (lv_at hl 0 rfl) ?_
  refine lv_iconst (v := (3 : Int32)) hx hb d_X6_init_58 (by decide) ?_
  refine lv_icmp_ge (tgt := 81) hx hb d_X6_init_59 (by decide) (fun hc => ?_) (fun hc => ?_)
  · exact absurd hc (by decide)
  refine lv_aload_n hx hb d_X6_init_62 rfl (lv_at hl 1 rfl) ?_
  refine g_get (C := "OysterBeds$Past") (T := TX6) (N := 5) (ty := tyX6) (q := q1) 0 3 X ct3 hP rfl (Nat.le_of_ble_eq_true rfl) wd_132 rfl d_X6_init_63 ?_
  refine lv_iload_n hx hb d_X6_init_66 rfl (lv_at hl 0 rfl) ?_
  refine g_new (C := "OysterBeds$Bed") (T := TX0) (N := 8) (ty := tyX0) (fs := [.null, .null, .null, .null, .null, .int 0, .int 0, .int 0]) (rest := [.int (1 : Int32), .ref q1]) (host := "OysterBeds") (out := out_X0 G) X hO hC hgA ct0 hP hD hS hl rfl (by decide) wd_125 wd_65 wd_4 (Or.inl nw_30) wd_67 wd_68 (fun b => c_X0_init hgA) (by intro j hj; rcases j with _ | _ | _ | _ | _ | _ | _ | _ | j <;> first | rfl | omega) ⟨Nat.le_of_ble_eq_true rfl, Nat.le_of_ble_eq_true rfl⟩ (Nat.le_of_ble_eq_true rfl) (Nat.le_of_ble_eq_true rfl) (Nat.le_of_ble_eq_true rfl) d_X6_init_67 d_X6_init_70 d_X6_init_71 (fun q19 a19 H locs hP hD hS => ?_)
  have hP : va_P (gD G) vwCl ((b, .inr (3, [.ref q0, .int 0, .int 0, .ref q1, .ref q2])) :: (q0, zB G 15 (va_up (va_up (va_up (va_up (va_up (va_up (va_up (va_up (va_up (va_up (va_up (va_up (va_up (va_up (va_up (fun _ => none) 0 (some q3)) 1 (some q4)) 2 (some q5)) 3 (some q6)) 4 (some q7)) 5 (some q8)) 6 (some q9)) 7 (some q10)) 8 (some q11)) 9 (some q12)) 10 (some q13)) 11 (some q14)) 12 (some q15)) 13 (some q16)) 14 (some q17))) :: (q1, zB G 3 (va_up (fun _ => none) 0 (some q18))) :: (q2, zZ G 3) :: ((((((((((((((((out_X0 G q3 a3 ++ out_X0 G q4 a4) ++ out_X0 G q5 a5) ++ out_X0 G q6 a6) ++ out_X0 G q7 a7) ++ out_X0 G q8 a8) ++ out_X0 G q9 a9) ++ out_X0 G q10 a10) ++ out_X0 G q11 a11) ++ out_X0 G q12 a12) ++ out_X0 G q13 a13) ++ out_X0 G q14 a14) ++ out_X0 G q15 a15) ++ out_X0 G q16 a16) ++ out_X0 G q17 a17) ++ out_X0 G q18 a18) ++ out_X0 G q19 a19)) H := hP
  have hD : va_D (va_A [(b, .inr (3, [.null, .int 0, .int 0, .null, .null]))] s.heap.size) ((b, .inr (3, [.ref q0, .int 0, .int 0, .ref q1, .ref q2])) :: (q0, zB G 15 (va_up (va_up (va_up (va_up (va_up (va_up (va_up (va_up (va_up (va_up (va_up (va_up (va_up (va_up (va_up (fun _ => none) 0 (some q3)) 1 (some q4)) 2 (some q5)) 3 (some q6)) 4 (some q7)) 5 (some q8)) 6 (some q9)) 7 (some q10)) 8 (some q11)) 9 (some q12)) 10 (some q13)) 11 (some q14)) 12 (some q15)) 13 (some q16)) 14 (some q17))) :: (q1, zB G 3 (va_up (fun _ => none) 0 (some q18))) :: (q2, zZ G 3) :: ((((((((((((((((out_X0 G q3 a3 ++ out_X0 G q4 a4) ++ out_X0 G q5 a5) ++ out_X0 G q6 a6) ++ out_X0 G q7 a7) ++ out_X0 G q8 a8) ++ out_X0 G q9 a9) ++ out_X0 G q10 a10) ++ out_X0 G q11 a11) ++ out_X0 G q12 a12) ++ out_X0 G q13 a13) ++ out_X0 G q14 a14) ++ out_X0 G q15 a15) ++ out_X0 G q16 a16) ++ out_X0 G q17 a17) ++ out_X0 G q18 a18) ++ out_X0 G q19 a19)) := hD
  refine g_astq (N := 3) 2 100 X hP hD hS rfl rfl (i := (1 : Int32)) (by decide) d_X6_init_74 (fun H locs hP hD hS => ?_)
  have hP : va_P (gD G) vwCl ((b, .inr (3, [.ref q0, .int 0, .int 0, .ref q1, .ref q2])) :: (q0, zB G 15 (va_up (va_up (va_up (va_up (va_up (va_up (va_up (va_up (va_up (va_up (va_up (va_up (va_up (va_up (va_up (fun _ => none) 0 (some q3)) 1 (some q4)) 2 (some q5)) 3 (some q6)) 4 (some q7)) 5 (some q8)) 6 (some q9)) 7 (some q10)) 8 (some q11)) 9 (some q12)) 10 (some q13)) 11 (some q14)) 12 (some q15)) 13 (some q16)) 14 (some q17))) :: (q1, zB G 3 (va_up (va_up (fun _ => none) 0 (some q18)) 1 (some q19))) :: (q2, zZ G 3) :: ((((((((((((((((out_X0 G q3 a3 ++ out_X0 G q4 a4) ++ out_X0 G q5 a5) ++ out_X0 G q6 a6) ++ out_X0 G q7 a7) ++ out_X0 G q8 a8) ++ out_X0 G q9 a9) ++ out_X0 G q10 a10) ++ out_X0 G q11 a11) ++ out_X0 G q12 a12) ++ out_X0 G q13 a13) ++ out_X0 G q14 a14) ++ out_X0 G q15 a15) ++ out_X0 G q16 a16) ++ out_X0 G q17 a17) ++ out_X0 G q18 a18) ++ out_X0 G q19 a19)) H := hP
  have hD : va_D (va_A [(b, .inr (3, [.null, .int 0, .int 0, .null, .null]))] s.heap.size) ((b, .inr (3, [.ref q0, .int 0, .int 0, .ref q1, .ref q2])) :: (q0, zB G 15 (va_up (va_up (va_up (va_up (va_up (va_up (va_up (va_up (va_up (va_up (va_up (va_up (va_up (va_up (va_up (fun _ => none) 0 (some q3)) 1 (some q4)) 2 (some q5)) 3 (some q6)) 4 (some q7)) 5 (some q8)) 6 (some q9)) 7 (some q10)) 8 (some q11)) 9 (some q12)) 10 (some q13)) 11 (some q14)) 12 (some q15)) 13 (some q16)) 14 (some q17))) :: (q1, zB G 3 (va_up (va_up (fun _ => none) 0 (some q18)) 1 (some q19))) :: (q2, zZ G 3) :: ((((((((((((((((out_X0 G q3 a3 ++ out_X0 G q4 a4) ++ out_X0 G q5 a5) ++ out_X0 G q6 a6) ++ out_X0 G q7 a7) ++ out_X0 G q8 a8) ++ out_X0 G q9 a9) ++ out_X0 G q10 a10) ++ out_X0 G q11 a11) ++ out_X0 G q12 a12) ++ out_X0 G q13 a13) ++ out_X0 G q14 a14) ++ out_X0 G q15 a15) ++ out_X0 G q16 a16) ++ out_X0 G q17 a17) ++ out_X0 G q18 a18) ++ out_X0 G q19 a19)) := hD
  refine lv_iinc (v := (2 : Int32)) (k := 0) (lv' := [(1, .int (2 : Int32)), (0, .ref b)]) hx hb d_X6_init_75 hl rfl (by rfl) (Nat.le_of_ble_eq_true rfl) rfl (fun ls hl => ?_)
  refine lv_goto (tgt := 57) hx hb d_X6_init_78 (by decide) ?_
  refine lv_iload_n hx hb d_X6_init_57 rfl (lv_at hl 0 rfl) ?_
  refine lv_iconst (v := (3 : Int32)) hx hb d_X6_init_58 (by decide) ?_
  refine lv_icmp_ge (tgt := 81) hx hb d_X6_init_59 (by decide) (fun hc => ?_) (fun hc => ?_)
  · exact absurd hc (by decide)
  refine lv_aload_n hx hb d_X6_init_62 rfl (lv_at hl 1 rfl) ?_
  refine g_get (C := "OysterBeds$Past") (T := TX6) (N := 5) (ty := tyX6) (q := q1) 0 3 X ct3 hP rfl (Nat.le_of_ble_eq_true rfl) wd_132 rfl d_X6_init_63 ?_
  refine lv_iload_n hx hb d_X6_init_66 rfl (lv_at hl 0 rfl) ?_
  refine g_new (C := "OysterBeds$Bed") (T := TX0) (N := 8) (ty := tyX0) (fs := [.null, .null, .null, .null, .null, .int 0, .int 0, .int 0]) (rest := [.int (2 : Int32), .ref q1]) (host := "OysterBeds") (out := out_X0 G) X hO hC hgA ct0 hP hD hS hl rfl (by decide) wd_125 wd_65 wd_4 (Or.inl nw_30) wd_67 wd_68 (fun b => c_X0_init hgA) (by intro j hj; rcases j with _ | _ | _ | _ | _ | _ | _ | _ | j <;> first | rfl | omega) ⟨Nat.le_of_ble_eq_true rfl, Nat.le_of_ble_eq_true rfl⟩ (Nat.le_of_ble_eq_true rfl) (Nat.le_of_ble_eq_true rfl) (Nat.le_of_ble_eq_true rfl) d_X6_init_67 d_X6_init_70 d_X6_init_71 (fun q20 a20 H locs hP hD hS => ?_)
  have hP : va_P (gD G) vwCl ((b, .inr (3, [.ref q0, .int 0, .int 0, .ref q1, .ref q2])) :: (q0, zB G 15 (va_up (va_up (va_up (va_up (va_up (va_up (va_up (va_up (va_up (va_up (va_up (va_up (va_up (va_up (va_up (fun _ => none) 0 (some q3)) 1 (some q4)) 2 (some q5)) 3 (some q6)) 4 (some q7)) 5 (some q8)) 6 (some q9)) 7 (some q10)) 8 (some q11)) 9 (some q12)) 10 (some q13)) 11 (some q14)) 12 (some q15)) 13 (some q16)) 14 (some q17))) :: (q1, zB G 3 (va_up (va_up (fun _ => none) 0 (some q18)) 1 (some q19))) :: (q2, zZ G 3) :: (((((((((((((((((out_X0 G q3 a3 ++ out_X0 G q4 a4) ++ out_X0 G q5 a5) ++ out_X0 G q6 a6) ++ out_X0 G q7 a7) ++ out_X0 G q8 a8) ++ out_X0 G q9 a9) ++ out_X0 G q10 a10) ++ out_X0 G q11 a11) ++ out_X0 G q12 a12) ++ out_X0 G q13 a13) ++ out_X0 G q14 a14) ++ out_X0 G q15 a15) ++ out_X0 G q16 a16) ++ out_X0 G q17 a17) ++ out_X0 G q18 a18) ++ out_X0 G q19 a19) ++ out_X0 G q20 a20)) H := hP
  have hD : va_D (va_A [(b, .inr (3, [.null, .int 0, .int 0, .null, .null]))] s.heap.size) ((b, .inr (3, [.ref q0, .int 0, .int 0, .ref q1, .ref q2])) :: (q0, zB G 15 (va_up (va_up (va_up (va_up (va_up (va_up (va_up (va_up (va_up (va_up (va_up (va_up (va_up (va_up (va_up (fun _ => none) 0 (some q3)) 1 (some q4)) 2 (some q5)) 3 (some q6)) 4 (some q7)) 5 (some q8)) 6 (some q9)) 7 (some q10)) 8 (some q11)) 9 (some q12)) 10 (some q13)) 11 (some q14)) 12 (some q15)) 13 (some q16)) 14 (some q17))) :: (q1, zB G 3 (va_up (va_up (fun _ => none) 0 (some q18)) 1 (some q19))) :: (q2, zZ G 3) :: (((((((((((((((((out_X0 G q3 a3 ++ out_X0 G q4 a4) ++ out_X0 G q5 a5) ++ out_X0 G q6 a6) ++ out_X0 G q7 a7) ++ out_X0 G q8 a8) ++ out_X0 G q9 a9) ++ out_X0 G q10 a10) ++ out_X0 G q11 a11) ++ out_X0 G q12 a12) ++ out_X0 G q13 a13) ++ out_X0 G q14 a14) ++ out_X0 G q15 a15) ++ out_X0 G q16 a16) ++ out_X0 G q17 a17) ++ out_X0 G q18 a18) ++ out_X0 G q19 a19) ++ out_X0 G q20 a20)) := hD
  refine g_astq (N := 3) 2 106 X hP hD hS rfl rfl (i := (2 : Int32)) (by decide) d_X6_init_74 (fun H locs hP hD hS => ?_)
  have hP : va_P (gD G) vwCl ((b, .inr (3, [.ref q0, .int 0, .int 0, .ref q1, .ref q2])) :: (q0, zB G 15 (va_up (va_up (va_up (va_up (va_up (va_up (va_up (va_up (va_up (va_up (va_up (va_up (va_up (va_up (va_up (fun _ => none) 0 (some q3)) 1 (some q4)) 2 (some q5)) 3 (some q6)) 4 (some q7)) 5 (some q8)) 6 (some q9)) 7 (some q10)) 8 (some q11)) 9 (some q12)) 10 (some q13)) 11 (some q14)) 12 (some q15)) 13 (some q16)) 14 (some q17))) :: (q1, zB G 3 (va_up (va_up (va_up (fun _ => none) 0 (some q18)) 1 (some q19)) 2 (some q20))) :: (q2, zZ G 3) :: (((((((((((((((((out_X0 G q3 a3 ++ out_X0 G q4 a4) ++ out_X0 G q5 a5) ++ out_X0 G q6 a6) ++ out_X0 G q7 a7) ++ out_X0 G q8 a8) ++ out_X0 G q9 a9) ++ out_X0 G q10 a10) ++ out_X0 G q11 a11) ++ out_X0 G q12 a12) ++ out_X0 G q13 a13) ++ out_X0 G q14 a14) ++ out_X0 G q15 a15) ++ out_X0 G q16 a16) ++ out_X0 G q17 a17) ++ out_X0 G q18 a18) ++ out_X0 G q19 a19) ++ out_X0 G q20 a20)) H := hP
  have hD : va_D (va_A [(b, .inr (3, [.null, .int 0, .int 0, .null, .null]))] s.heap.size) ((b, .inr (3, [.ref q0, .int 0, .int 0, .ref q1, .ref q2])) :: (q0, zB G 15 (va_up (va_up (va_up (va_up (va_up (va_up (va_up (va_up (va_up (va_up (va_up (va_up (va_up (va_up (va_up (fun _ => none) 0 (some q3)) 1 (some q4)) 2 (some q5)) 3 (some q6)) 4 (some q7)) 5 (some q8)) 6 (some q9)) 7 (some q10)) 8 (some q11)) 9 (some q12)) 10 (some q13)) 11 (some q14)) 12 (some q15)) 13 (some q16)) 14 (some q17))) :: (q1, zB G 3 (va_up (va_up (va_up (fun _ => none) 0 (some q18)) 1 (some q19)) 2 (some q20))) :: (q2, zZ G 3) :: (((((((((((((((((out_X0 G q3 a3 ++ out_X0 G q4 a4) ++ out_X0 G q5 a5) ++ out_X0 G q6 a6) ++ out_X0 G q7 a7) ++ out_X0 G q8 a8) ++ out_X0 G q9 a9) ++ out_X0 G q10 a10) ++ out_X0 G q11 a11) ++ out_X0 G q12 a12) ++ out_X0 G q13 a13) ++ out_X0 G q14 a14) ++ out_X0 G q15 a15) ++ out_X0 G q16 a16) ++ out_X0 G q17 a17) ++ out_X0 G q18 a18) ++ out_X0 G q19 a19) ++ out_X0 G q20 a20)) := hD
  refine lv_iinc (v := (3 : Int32)) (k := 0) (lv' := [(1, .int (3 : Int32)), (0, .ref b)]) hx hb d_X6_init_75 hl rfl (by rfl) (Nat.le_of_ble_eq_true rfl) rfl (fun ls hl => ?_)
  refine lv_goto (tgt := 57) hx hb d_X6_init_78 (by decide) ?_
  refine lv_iload_n hx hb d_X6_init_57 rfl (lv_at hl 0 rfl) ?_
  refine lv_iconst (v := (3 : Int32)) hx hb d_X6_init_58 (by decide) ?_
  refine lv_icmp_ge (tgt := 81) hx hb d_X6_init_59 (by decide) (fun hc => ?_) (fun hc => ?_)
  rotate_left
  · exact absurd (by decide) hc
  exact hret H _ _ (fun i => ([q0, q1, q2] : List Nat).getD i 0, fun i => ([(q3, a3), (q4, a4), (q5, a5), (q6, a6), (q7, a7), (q8, a8), (q9, a9), (q10, a10), (q11, a11), (q12, a12), (q13, a13), (q14, a14), (q15, a15), (q16, a16), (q17, a17), (q18, a18), (q19, a19), (q20, a20)] : List (Nat × (Nat → Nat))).getD i (q3, a3)) hP hD hS 81 d_X6_init_81
