theorem wd_46 : Cond.superclass "RealText$Row" "java/lang/Object" ∈ zw := zw_1 (List.mem_of_getElem? (i := 46) rfl) rfl
theorem wd_76 : Cond.superclass "RealText$Literal" "java/lang/Object" ∈ zw := zw_1 (List.mem_of_getElem? (i := 76) rfl) rfl
theorem wd_96 : Cond.superclass "RealText$Big" "java/lang/Object" ∈ zw := zw_1 (List.mem_of_getElem? (i := 96) rfl) rfl
theorem wd_116 : Cond.superclass "RealText$Quotient" "java/lang/Object" ∈ zw := zw_1 (List.mem_of_getElem? (i := 116) rfl) rfl
theorem wd_151 : Cond.superclass "RealText$Shortest" "java/lang/Object" ∈ zw := zw_1 (List.mem_of_getElem? (i := 151) rfl) rfl
theorem wd_167 : Cond.superclass "RealText$Decimal" "java/lang/Object" ∈ zw := zw_1 (List.mem_of_getElem? (i := 167) rfl) rfl
theorem wd_195 : Cond.superclass "RealText" "java/lang/Object" ∈ zw := zw_1 (List.mem_of_getElem? (i := 195) rfl) rfl
theorem wd_458 : Cond.codeWith y_Law_text method_3_code 5 (some .int) [(0, 9, 12, 13), (0, 9, 16, 15)] ∈ zw := zw_2 (List.mem_of_getElem? (i := 218) rfl) rfl
theorem wd_493 : Cond.superclass "java/lang/Throwable" "java/lang/Object" ∈ zw := zw_3 (List.mem_of_getElem? (i := 13) rfl) rfl
theorem wd_506 : Cond.codeSync y_Thr_fillInStackTrace_1 prog_22_method_18_code 1 (some (.object "java/lang/Throwable")) ∈ zw := zw_3 (List.mem_of_getElem? (i := 26) rfl) rfl
theorem wd_533 : Cond.superclass "java/lang/IllegalArgumentException" "java/lang/RuntimeException" ∈ zw := zw_3 (List.mem_of_getElem? (i := 53) rfl) rfl
theorem wd_551 : Cond.superclass "java/lang/IllegalStateException" "java/lang/RuntimeException" ∈ zw := zw_3 (List.mem_of_getElem? (i := 71) rfl) rfl
theorem wd_554 : Cond.codeWith y_Law_read method_4_code 4 (some .int) [(0, 8, 11, 13), (0, 8, 14, 21)] ∈ zw := zw_3 (List.mem_of_getElem? (i := 74) rfl) rfl
theorem wd_660 : Cond.superclass "java/lang/ArithmeticException" "java/lang/RuntimeException" ∈ zw := zw_3 (List.mem_of_getElem? (i := 180) rfl) rfl
theorem wd_663 : Cond.codeWith y_Law_count method_5_code 4 (some .int) [(0, 9, 12, 13)] ∈ zw := zw_3 (List.mem_of_getElem? (i := 183) rfl) rfl
theorem wd_751 : Cond.superclass "RealTextModel" "java/lang/Object" ∈ zw := zw_4 (List.mem_of_getElem? (i := 31) rfl) rfl
theorem zt_thr {args : Array Value} {s : State} {A : Nat → Prop} {adF : Nat → Nat} {tp : Nat} {adK adV : Nat → Nat} (hw : ∀ w ∈ zw, w.before args s = true) (hX : zx_E adF tp adK adV A s s.heap) : ∀ a ∈ Bundle.throwableAtoms, a.before args s = true := List.forall_mem_cons.mpr ⟨hw _ wd_9, List.forall_mem_cons.mpr ⟨hw _ wd_493, List.forall_mem_cons.mpr ⟨hw _ wd_502, List.forall_mem_cons.mpr ⟨hw _ wd_506, List.forall_mem_cons.mpr ⟨hw _ wd_509, List.forall_mem_cons.mpr ⟨hw _ wd_511, List.forall_mem_cons.mpr ⟨hw _ wd_494, List.forall_mem_cons.mpr ⟨hw _ wd_495, List.forall_mem_cons.mpr ⟨hw _ wd_29, List.forall_mem_cons.mpr ⟨hw _ wd_30, List.forall_mem_cons.mpr ⟨hw _ wd_496, List.forall_mem_cons.mpr ⟨hw _ wd_501, List.forall_mem_cons.mpr ⟨hw _ wd_507, List.forall_mem_cons.mpr ⟨hw _ wd_523, List.forall_mem_cons.mpr ⟨hw _ wd_483, List.forall_mem_cons.mpr ⟨hw _ wd_524, List.forall_mem_cons.mpr ⟨hw _ wd_485, List.forall_mem_cons.mpr ⟨hw _ wd_525, List.forall_mem_cons.mpr ⟨hw _ wd_487, List.forall_mem_cons.mpr ⟨hw _ wd_497, List.forall_mem_cons.mpr ⟨zs_lays hX.2.2.2.2.2.2.2.1, List.forall_mem_cons.mpr ⟨hw _ wd_499, List.forall_mem_cons.mpr ⟨zs_lays hX.2.2.2.2.2.2.2.2.1, List.forall_mem_cons.mpr ⟨hw _ wd_489, List.forall_mem_nil _⟩⟩⟩⟩⟩⟩⟩⟩⟩⟩⟩⟩⟩⟩⟩⟩⟩⟩⟩⟩⟩⟩⟩⟩
theorem zt_ia {args : Array Value} {s : State} {A : Nat → Prop} {adF : Nat → Nat} {tp : Nat} {adK adV : Nat → Nat} (hw : ∀ w ∈ zw, w.before args s = true) (hX : zx_E adF tp adK adV A s s.heap) : ∀ a ∈ Bundle.ownAtoms0 "RealText" 55 "java/lang/IllegalArgumentException" ["java/lang/RuntimeException", "java/lang/Exception"], a.before args s = true := List.forall_mem_append.mpr ⟨List.forall_mem_append.mpr ⟨zt_thr hw hX, List.forall_mem_append.mpr ⟨List.forall_mem_cons.mpr ⟨hw _ wd_513, List.forall_mem_cons.mpr ⟨hw _ wd_514, List.forall_mem_cons.mpr ⟨hw _ wd_515, List.forall_mem_cons.mpr ⟨hw _ wd_516, List.forall_mem_cons.mpr ⟨va_Nw.use rfl hX.2.2.2.2.2.2.2.2.2.2.2.2.2.2.2.2.2.2.1, List.forall_mem_nil _⟩⟩⟩⟩⟩, List.forall_mem_append.mpr ⟨List.forall_mem_cons.mpr ⟨hw _ wd_516, List.forall_mem_cons.mpr ⟨hw _ wd_517, List.forall_mem_cons.mpr ⟨hw _ wd_518, List.forall_mem_cons.mpr ⟨hw _ wd_519, List.forall_mem_cons.mpr ⟨va_Nw.use rfl hX.2.2.2.2.2.2.2.2.2.2.2.2.2.2.2.2.2.2.2.1, List.forall_mem_nil _⟩⟩⟩⟩⟩, List.forall_mem_cons.mpr ⟨hw _ wd_519, List.forall_mem_cons.mpr ⟨hw _ wd_520, List.forall_mem_cons.mpr ⟨hw _ wd_521, List.forall_mem_cons.mpr ⟨hw _ wd_494, List.forall_mem_cons.mpr ⟨va_Nw.use rfl hX.2.2.2.2.2.2.2.2.2.2.2.2.2.2.2.2.2.2.2.2, List.forall_mem_nil _⟩⟩⟩⟩⟩⟩⟩⟩, List.forall_mem_cons.mpr ⟨hw _ wd_512, List.forall_mem_cons.mpr ⟨hw _ wd_472, List.forall_mem_cons.mpr ⟨va_Nw.use rfl hX.2.2.2.2.2.2.2.2.2.1, List.forall_mem_cons.mpr ⟨hw _ wd_480, List.forall_mem_cons.mpr ⟨hw _ wd_481, List.forall_mem_cons.mpr ⟨hw _ wd_482, List.forall_mem_cons.mpr ⟨hw _ wd_484, List.forall_mem_cons.mpr ⟨hw _ wd_486, List.forall_mem_cons.mpr ⟨hw _ wd_488, List.forall_mem_cons.mpr ⟨zs_ref hX.2.2.2.2.2.2.2.1, List.forall_mem_cons.mpr ⟨zs_ref hX.2.2.2.2.2.2.2.2.1, List.forall_mem_cons.mpr ⟨hw _ wd_492, List.forall_mem_cons.mpr ⟨hw _ wd_491, List.forall_mem_cons.mpr ⟨hw _ wd_490, List.forall_mem_nil _⟩⟩⟩⟩⟩⟩⟩⟩⟩⟩⟩⟩⟩⟩⟩
theorem zt_is {args : Array Value} {s : State} {A : Nat → Prop} {adF : Nat → Nat} {tp : Nat} {adK adV : Nat → Nat} (hw : ∀ w ∈ zw, w.before args s = true) (hX : zx_E adF tp adK adV A s s.heap) : ∀ a ∈ Bundle.ownAtoms0 "RealText" 66 "java/lang/IllegalStateException" ["java/lang/RuntimeException", "java/lang/Exception"], a.before args s = true := List.forall_mem_append.mpr ⟨List.forall_mem_append.mpr ⟨zt_thr hw hX, List.forall_mem_append.mpr ⟨List.forall_mem_cons.mpr ⟨hw _ wd_547, List.forall_mem_cons.mpr ⟨hw _ wd_548, List.forall_mem_cons.mpr ⟨hw _ wd_549, List.forall_mem_cons.mpr ⟨hw _ wd_516, List.forall_mem_cons.mpr ⟨va_Nw.use rfl hX.2.2.2.2.2.2.2.2.2.2.2.2.2.2.2.2.2.2.1, List.forall_mem_nil _⟩⟩⟩⟩⟩, List.forall_mem_append.mpr ⟨List.forall_mem_cons.mpr ⟨hw _ wd_516, List.forall_mem_cons.mpr ⟨hw _ wd_517, List.forall_mem_cons.mpr ⟨hw _ wd_518, List.forall_mem_cons.mpr ⟨hw _ wd_519, List.forall_mem_cons.mpr ⟨va_Nw.use rfl hX.2.2.2.2.2.2.2.2.2.2.2.2.2.2.2.2.2.2.2.1, List.forall_mem_nil _⟩⟩⟩⟩⟩, List.forall_mem_cons.mpr ⟨hw _ wd_519, List.forall_mem_cons.mpr ⟨hw _ wd_520, List.forall_mem_cons.mpr ⟨hw _ wd_521, List.forall_mem_cons.mpr ⟨hw _ wd_494, List.forall_mem_cons.mpr ⟨va_Nw.use rfl hX.2.2.2.2.2.2.2.2.2.2.2.2.2.2.2.2.2.2.2.2, List.forall_mem_nil _⟩⟩⟩⟩⟩⟩⟩⟩, List.forall_mem_cons.mpr ⟨hw _ wd_546, List.forall_mem_cons.mpr ⟨hw _ wd_538, List.forall_mem_cons.mpr ⟨va_Nw.use rfl hX.2.2.2.2.2.2.2.2.2.2.1, List.forall_mem_cons.mpr ⟨hw _ wd_540, List.forall_mem_cons.mpr ⟨hw _ wd_505, List.forall_mem_cons.mpr ⟨hw _ wd_541, List.forall_mem_cons.mpr ⟨hw _ wd_542, List.forall_mem_cons.mpr ⟨hw _ wd_543, List.forall_mem_cons.mpr ⟨hw _ wd_544, List.forall_mem_cons.mpr ⟨zs_ref hX.2.2.2.2.2.2.2.1, List.forall_mem_cons.mpr ⟨zs_ref hX.2.2.2.2.2.2.2.2.1, List.forall_mem_cons.mpr ⟨hw _ wd_492, List.forall_mem_cons.mpr ⟨hw _ wd_491, List.forall_mem_cons.mpr ⟨hw _ wd_545, List.forall_mem_nil _⟩⟩⟩⟩⟩⟩⟩⟩⟩⟩⟩⟩⟩⟩⟩
theorem zt_ar {args : Array Value} {s : State} {A : Nat → Prop} {adF : Nat → Nat} {tp : Nat} {adK adV : Nat → Nat} (hw : ∀ w ∈ zw, w.before args s = true) (hX : zx_E adF tp adK adV A s s.heap) : ∀ a ∈ Bundle.ownAtoms0 "RealText" 104 "java/lang/ArithmeticException" ["java/lang/RuntimeException", "java/lang/Exception"], a.before args s = true := List.forall_mem_append.mpr ⟨List.forall_mem_append.mpr ⟨zt_thr hw hX, List.forall_mem_append.mpr ⟨List.forall_mem_cons.mpr ⟨hw _ wd_656, List.forall_mem_cons.mpr ⟨hw _ wd_657, List.forall_mem_cons.mpr ⟨hw _ wd_658, List.forall_mem_cons.mpr ⟨hw _ wd_516, List.forall_mem_cons.mpr ⟨va_Nw.use rfl hX.2.2.2.2.2.2.2.2.2.2.2.2.2.2.2.2.2.2.1, List.forall_mem_nil _⟩⟩⟩⟩⟩, List.forall_mem_append.mpr ⟨List.forall_mem_cons.mpr ⟨hw _ wd_516, List.forall_mem_cons.mpr ⟨hw _ wd_517, List.forall_mem_cons.mpr ⟨hw _ wd_518, List.forall_mem_cons.mpr ⟨hw _ wd_519, List.forall_mem_cons.mpr ⟨va_Nw.use rfl hX.2.2.2.2.2.2.2.2.2.2.2.2.2.2.2.2.2.2.2.1, List.forall_mem_nil _⟩⟩⟩⟩⟩, List.forall_mem_cons.mpr ⟨hw _ wd_519, List.forall_mem_cons.mpr ⟨hw _ wd_520, List.forall_mem_cons.mpr ⟨hw _ wd_521, List.forall_mem_cons.mpr ⟨hw _ wd_494, List.forall_mem_cons.mpr ⟨va_Nw.use rfl hX.2.2.2.2.2.2.2.2.2.2.2.2.2.2.2.2.2.2.2.2, List.forall_mem_nil _⟩⟩⟩⟩⟩⟩⟩⟩, List.forall_mem_cons.mpr ⟨hw _ wd_655, List.forall_mem_cons.mpr ⟨hw _ wd_647, List.forall_mem_cons.mpr ⟨va_Nw.use rfl hX.2.2.2.2.2.2.2.2.2.2.2.1, List.forall_mem_cons.mpr ⟨hw _ wd_649, List.forall_mem_cons.mpr ⟨hw _ wd_504, List.forall_mem_cons.mpr ⟨hw _ wd_650, List.forall_mem_cons.mpr ⟨hw _ wd_651, List.forall_mem_cons.mpr ⟨hw _ wd_652, List.forall_mem_cons.mpr ⟨hw _ wd_653, List.forall_mem_cons.mpr ⟨zs_ref hX.2.2.2.2.2.2.2.1, List.forall_mem_cons.mpr ⟨zs_ref hX.2.2.2.2.2.2.2.2.1, List.forall_mem_cons.mpr ⟨hw _ wd_492, List.forall_mem_cons.mpr ⟨hw _ wd_491, List.forall_mem_cons.mpr ⟨hw _ wd_654, List.forall_mem_nil _⟩⟩⟩⟩⟩⟩⟩⟩⟩⟩⟩⟩⟩⟩⟩
-- a method that may throw: its contract (xm_Met), the end by athrow, the call that comes back either way, the catch
theorem xm_mono {p : Program} {l : Launch} {e : Env} {R : Room} {s : State} {m : MethodId} {args : Array Value} {below : List Frame} {meth : Method} {c : Code} {H : Heap} {locs : List Loc} {cells slots : Nat} {Q Q' : State → Prop} {g : JFrame}
    (h : ∀ t, Q t → Q' t) (w : W p l e R s m args below meth c H locs cells slots Q g) : W p l e R s m args below meth c H locs cells slots Q' g := by
  intro T hT X
  obtain ⟨t, a, b⟩ := w T hT X
  exact ⟨t, a, h t b⟩
def xm_Fe (first t : State) (L : List Loc) (k n : Nat) : Prop := first.WarmedH t.vm ∧ first.sameButNew ({ t with vm := first.vm } : State) L k n
def xm_Met (l : Launch) (y : MethodName) (ws : List Cond) (rm : Room) (Pc : Array Value → State → Prop) (Qc : Array Value → State → Outcome → State → Prop) (mc ms : Nat) (free : Addr → Prop) : Prop :=
  MetFree l y (headSpec ws rm) Pc (fun _ _ _ _ _ => True) (fun a st o t => Qc a st o t ∧ ∃ L, xm_Fe st t L mc ms ∧ ∀ q ∈ L, free q.base)
def xm_Q (below : List Frame) (Qc : Array Value → State → Outcome → State → Prop) (a : Array Value) (s : State) (mc ms : Nat) (free : Addr → Prop) : State → Prop := fun t =>
  ∃ o, t.status = .running ∧ Ended t below o ∧ Qc a s o t ∧ ∃ L, xm_Fe s t L mc ms ∧ ∀ q ∈ L, free q.base
theorem xm_Q_of {below : List Frame} {Qc : Array Value → State → Outcome → State → Prop} {a : Array Value} {s : State} {mc ms : Nat} {free : Addr → Prop} (t : State) (h : MQ below Qc a s mc ms free t) : xm_Q below Qc a s mc ms free t := by
  obtain ⟨o, h1, h2, h3, L, h4, h5⟩ := h
  exact ⟨o, h1, h2, h3, L, ⟨h4.2.1, h4.2.2⟩, h5⟩
theorem xm_ofW {l : Launch} {y : MethodName} {ws ws' : List Cond} {rm : Room} {Pc : Array Value → State → Prop} {Qc : Array Value → State → Outcome → State → Prop} {mc ms : Nat} {free : Addr → Prop} {cc : ByteArray} {maxL : Nat} {ret : Option FieldType}
    (hy : plainName y.cls = true) (hw : ws = Cond.code y cc maxL ret :: ws')
    (body : ∀ p e s m args below meth c s₁, BodyLoose p l y (headSpec ws rm) cc maxL ret e s m args below meth c s₁ → c.maxLocals = maxL → Pc args s →
      W p l e (headSpec ws rm).room s m args below meth c s.heap [] 0 0 (xm_Q below Qc args s mc ms free) (entryFrame m args maxL)) : xm_Met l y ws rm Pc Qc mc ms free := by
  refine MetFree.of_bodyS (code := cc) (maxLocals := maxL) (ret := ret) hy ?_ ?_
  · intro args s m h hn
    obtain ⟨meth, c, h1, h2, h3, h4, h5, h6, -, -⟩ := Cond.code_spec hn (atoms_spec (ws := ws) h _ (by rw [hw]; exact List.mem_cons_self))
    exact ⟨meth, c, h1, h2, h3, h4, h5, h6⟩
  · intro p e s m args below meth c s₁ B hml hP _
    have hh0 : s₁.heap = s.heap := by rw [B.state]; rfl
    obtain ⟨t, a1, o, b1, b2, b3⟩ := body p e s m args below meth c s₁ B hml hP s₁ hh0 (Stand.of_body B)
    exact ⟨t, o, a1, b1, b2, ⟨b3.1, b3.2⟩⟩
theorem xm_tr {l : Launch} {e : Env} (h : l.admits e) (hl : l.stackTraces = false) : e.platform.stackTraces = false := by
  have := h.2.2.2.2.1
  rw [this]
  exact hl
section Xm
variable {p : Program} {l : Launch} {e : Env} {R : Room} {s : State} {m : MethodId} {args : Array Value} {below : List Frame} {meth : Method} {c : Code} {H : Heap} {locs : List Loc} {cells slots : Nat} {Q : State → Prop}
set_option maxHeartbeats 4000000 in
/-- the plain constructor of an exception, without stack traces: what it leaves in its cell nobody asks, but its kind -/
theorem xm_init {V : State} (X : Stand p l e R s m args below meth c V locs cells slots) (hexec : p.tables.exec = Jvm.exec) (htr : e.platform.stackTraces = false) {own cls : String} {names : List String} {ic : Nat}
    (hown : s.vm.findClass own = some m.cls) (hcls : Bundle.fit cls = true) (hnames : ∀ n ∈ names, Bundle.fit n = true)
    (h : ∀ a ∈ Bundle.ownAtoms0 own ic cls names, a.before args s = true)
    (hlocs : ∀ x ∈ locs, ∀ cell, s.heap[x.base]? = some cell → cell.vm.isStatics = false)
    {a : Addr} {cX : ClassId} {kX : Class} (hfoundX : s.vm.findClass cls = some cX) (hkX : s.vm.classes[cX]? = some kX) (hcell : V.heap[a]? = some (freshCell cX kX)) (hnew : s.heap.size ≤ a)
    {g : JFrame} (hg : g.method = m) (hsize : g.locals.size = c.maxLocals) {rest : List Value} (hstack : g.stack = .ref a :: rest)
    (hd : decode c.code g.pc = .ok (.invokespecial ic, 3))
    (hRframes : names.length + 3 < R.frames) (hRlocals : 2 * g.monitorRoom + (rest.map fun v => v.category).sum + (13 * (names.length + 1) + 41) ≤ R.locals) :
    ∃ (U : State) (ce : Cell), U.heap = V.heap.setIfInBounds a ce ∧ Stand p l e R s m args below meth c U locs cells slots ∧ ce.cls = cX ∧ ce.vm = .none ∧
      ∀ target, Steps p.tables e below (U.setTop { g with pc := g.pc + 3, stack := rest }) target → Steps p.tables e below (V.setTop g) target := by
  have howns : e.platform.frameOwnsMonitors = true := by rw [X.admits.platform]
  have hfin : e.platform.finalization = false := by rw [X.admits.platform]
  have hpl : e.platform.magicAccessors = ({} : Platform).magicAccessors := by rw [X.admits.platform]
  have at0 : ∀ x, x ∈ Bundle.ownAtoms0 own ic cls names → x.holds args s none s [] = true := fun x hx => h x hx
  obtain ⟨T, Z, L, LZ, Y⟩ := ThrowableC.of_atoms (args := args) howns hfin hpl (fun x hx => h x (by simp [Bundle.ownAtoms0, hx]))
  obtain ⟨P1, Ps, hlen, L1, hL, hP1m, hlink1, hlink⟩ := Bundle.chain0 (args := args) hpl Y.init0 names cls hcls hnames (fun x hx => h x (by simp [Bundle.ownAtoms0, hx]))
  have hfound : s.vm.findClass cls = some P1.m.cls := findClass_of_methodNamed hP1m
  cases Option.some.inj (hfoundX.symm.trans hfound)
  obtain ⟨c1, kX', hc1, hk, hord, -, -, hn6⟩ := Cond.instantiable_spec (at0 (.instantiable cls 6) (by simp [Bundle.ownAtoms0]))
  cases Option.some.inj (hc1.symm.trans hfound)
  cases Option.some.inj (hkX.symm.trans hk)
  have hsel0 : selectMethod e.platform s.vm P1.m.cls T.fill0 = .method T.fill0 := by
    obtain ⟨c2, r2, m2, q1, q2, q3, q4, -⟩ := Cond.selects_spec (at0 (.selects cls Bundle.tFill0 Bundle.tFill0) (by simp [Bundle.ownAtoms0]))
    cases Option.some.inj (q1.symm.trans hfound)
    cases Option.some.inj (q2.symm.trans (State.methodFound?_of_named Y.fill0 (by decide)))
    cases Option.some.inj (q3.symm.trans Y.fill0)
    rw [Launch.admits_selectMethod X.admits]
    exact q4
  have hselF : selectMethod e.platform s.vm P1.m.cls T.fill = .method T.fill := by
    obtain ⟨c2, r2, m2, q1, q2, q3, q4, -⟩ := Cond.selects_spec (at0 (.selects cls Bundle.tFill Bundle.tFill) (by simp [Bundle.ownAtoms0]))
    cases Option.some.inj (q1.symm.trans hfound)
    cases Option.some.inj (q2.symm.trans (State.methodFound?_of_named Y.fill (by decide)))
    cases Option.some.inj (q3.symm.trans Y.fill)
    rw [Launch.admits_selectMethod X.admits]
    exact q4
  obtain ⟨cellS0, hcS0, hiss⟩ := Y.statics
  obtain ⟨u0, hu0⟩ := Cond.staticRefV Y.unassigned L.unassignedStatic L.statics hcS0 hiss (at0 (.isRef (.static Bundle.tN "UNASSIGNED_STACK" Bundle.steD)) (by simp [Bundle.ownAtoms0]))
  obtain ⟨sen, hsen⟩ := Cond.staticRefV Y.sentinel L.sentinelStatic L.statics hcS0 hiss (at0 (.isRef (.static Bundle.tN "SUPPRESSED_SENTINEL" Bundle.listD)) (by simp [Bundle.ownAtoms0]))
  obtain ⟨ci198, i198, fB, hk198, hg198, ha198, hsB, -, hnB, htB, hffB⟩ := Cond.ownField (t := .object "java/lang/Object") Y.found L.cls (by decide +kernel) (at0 (.fieldLink Bundle.tN 198 Bundle.tN "backtrace" "Ljava/lang/Object;") (by simp [Bundle.ownAtoms0])) (at0 (.lays Bundle.tN Bundle.tN "backtrace" "Ljava/lang/Object;") (by simp [Bundle.ownAtoms0])) e.platform hpl
  obtain ⟨cellS, hcS', heS, -, hkeep⟩ := X.same.2.2.2.2.2 T.aS cellS0 hcS0
  have hcellS : V.heap[T.aS]? = some cellS := hcS'
  have hout' : ∀ i, (⟨T.aS, i⟩ : Loc) ∉ locs := fun i hmem => by
    have := hlocs _ hmem cellS0 hcS0
    rw [hiss] at this
    cases this
  have hknownS : cellS.vm ≠ .unknown := by
    rw [heS]
    intro hu
    rw [show cellS0.vm = .unknown from hu] at hiss
    cases hiss
  have hneS : T.aS ≠ a := Nat.ne_of_lt (Nat.lt_of_lt_of_le (Array.getElem?_eq_some_iff.mp hcS0).1 hnew)
  obtain ⟨tyC, dC, hdC, hdnC⟩ := Cond.laysAt hfound hk Y.cause (at0 (.lays cls Bundle.tN "cause" "Ljava/lang/Throwable;") (by simp [Bundle.ownAtoms0]))
  obtain ⟨tyS, dS, hdS, hdnS⟩ := Cond.laysAt hfound hk Y.stack (at0 (.lays cls Bundle.tN "stackTrace" Bundle.steD) (by simp [Bundle.ownAtoms0]))
  obtain ⟨tyP, dP, hdP, hdnP⟩ := Cond.laysAt hfound hk Y.supp (at0 (.lays cls Bundle.tN "suppressedExceptions" Bundle.listD) (by simp [Bundle.ownAtoms0]))
  obtain ⟨tyB, dB, hdB, hdnB⟩ := Cond.laysAt hfound hk hffB (at0 (.lays cls Bundle.tN "backtrace" "Ljava/lang/Object;") (by simp [Bundle.ownAtoms0]))
  have bC := Cond.laysApart hdB hdC hdnB hdnC (by rw [hnB, Y.causeName]; decide)
  have bS := Cond.laysApart hdB hdS hdnB hdnS (by rw [hnB, Y.stackName]; decide)
  have bP := Cond.laysApart hdB hdP hdnB hdnP (by rw [hnB, Y.suppName]; decide)
  have hskip : SkipFacts T e.platform s (fun u => u) u0 ((preparedCellV T.toThrowableT (freshCell P1.m.cls kX) a u0 sen).withEntry V.cur) :=
    ⟨{ ci198 := ci198, i198 := i198, fBack := fB }, ⟨hk198, hg198, ha198, hsB⟩, by
      have := fresh_default (c := P1.m.cls) tyB
      rw [htB] at this
      simpa [preparedCellV, Cell.setSlot, Cell.withEntry, Array.getElem?_setIfInBounds, bC, bS, bP, bC.symm, bS.symm, bP.symm, defaultValue] using this, fun _ _ => rfl⟩
  obtain ⟨tm, methC, cdC, kC, vm₁, hnC, -, -, -, -, -, -, -, hW₁, st1⟩ := Steps.initCold (tb := p.tables) (e := e) (below := below) (s := s) (U := V) X.here hexec X.warmed hpl hown (t := Bundle.init0 cls) rfl rfl (Bundle.fit_spec hcls).2
    (at0 (.methodLink own ic (Bundle.init0 cls)) (by simp [Bundle.ownAtoms0])) (h (.instanceMethod (Bundle.init0 cls)) (by cases names <;> simp [Bundle.ownAtoms0, Bundle.chain0Atoms, Bundle.passAtoms])) (bytes := Bundle.five) (maxL := 1) (h (.code (Bundle.init0 cls) Bundle.five 1 none) (by cases names <;> simp [Bundle.ownAtoms0, Bundle.chain0Atoms, Bundle.passAtoms]))
    (f := g) hg (a := a) (rest := rest) hstack hd
  cases Option.some.inj (hnC.symm.trans hP1m)
  have X₁ := X.noted hW₁
  obtain ⟨vm₂, X₂, st2⟩ := X₁.ctorPlainOffV hexec (g := { g with stack := rest }) hg hsize T L Z LZ (P1 :: Ps)
    (fun P hP => by
      rcases List.mem_cons.mp hP with rfl | hP
      · exact L1
      · exact hL P hP) ⟨hlink1, hlink⟩ (u0 := u0) (sen := sen) (self := a) (cell := freshCell P1.m.cls kX) (cellS := cellS)
    hcell (fun _ => by simp) (by simp) rfl rfl hsel0 hselF hcellS hneS hknownS (by rw [hkeep _ (hout' _)]; exact hu0) (by rw [hkeep _ (hout' _)]; exact hsen)
    (Takes.of_laid hk hord tyC (by rw [Y.causeType]; rfl)) (Takes.of_laid hk hord tyS (by rw [Y.stackType]; exact fits_refV_array _ u0)) (Takes.of_laid hk hord tyP (by rw [Y.suppType]; exact fits_refV_object _ sen)) Y.objLocals hskip htr [] hd
    (by simp only [List.length_cons, hlen]; omega) (by simp only [List.length_cons, hlen]; exact hRlocals)
  refine ⟨_, (preparedCellV T.toThrowableT (freshCell P1.m.cls kX) a u0 sen).setSlot T.fStack.slot u0.v, rfl, X₂.forget (fun y hy => ?_), rfl, rfl, fun target ht => st1 _ (fun acts => ?_)⟩
  · simp only [List.mem_cons, List.not_mem_nil, or_false] at hy
    rcases hy with rfl | rfl | rfl | rfl <;> exact hnew
  · rw [doInvoke_state]
    exact st2 _ ht
end Xm
theorem xm_push (H : Heap) (a b : Cell) : (H.push a).setIfInBounds H.size b = H.push b := by
  apply Array.ext_getElem?
  intro i
  rw [Array.getElem?_setIfInBounds, Array.getElem?_push, Array.getElem?_push, Array.size_push]
  by_cases h : i = H.size
  · subst h
    simp
  · have h2 : ¬ H.size = i := fun q => h q.symm
    simp [h, h2]
theorem xm_locs {D : va_G} {cl : List vw_C} {ws : va_W} {s : State} {H : Heap} {locs : List Loc} (hP0 : va_P D cl ws s.heap) (hS : va_S (va_A ws s.heap.size) s.heap H locs) : ∀ x ∈ locs, ∀ cell, s.heap[x.base]? = some cell → cell.vm.isStatics = false := by
  intro x hx cell hc
  rcases hS.2.2 x hx with ⟨k, e, h⟩ | h
  · have ha := hP0 k _ h
    cases e with
    | inl a =>
      have h1 : s.heap[x.base]? = some (vp_cell a.1 a.2) := ha
      rw [h1] at hc
      cases hc
      obtain ⟨cA, n, f⟩ := a
      rcases f with f | f | f | f | f <;> rfl
    | inr o =>
      obtain ⟨r, -, cell', g1, g2, g3, -⟩ := ha
      have h1 : s.heap[x.base]? = some cell' := g1
      rw [h1] at hc
      cases hc
      rw [g3]
      rfl
  · have := (Array.getElem?_eq_some_iff.mp hc).1
    omega
section Xn
variable {p : Program} {l : Launch} {e : Env} {R : Room} {s : State} {m : MethodId} {args : Array Value} {below : List Frame} {meth : Method} {c : Code} {H : Heap} {locs : List Loc} {cells slots : Nat} {Q : State → Prop}
variable {cc : ByteArray} {pc : Nat} {ls : Array Slot}
/-- throw new X(): the method ends, the exception's cell is the only new one -/
theorem xm_raise (hexec : p.tables.exec = Jvm.exec) (hb : c.code = cc) (htl : l.stackTraces = false) {own cls : String} {names : List String} {ic ix : Nat}
    (hown : s.vm.findClass own = some m.cls) (hcls : Bundle.fit cls = true) (hnames : ∀ n ∈ names, Bundle.fit n = true)
    (h : ∀ a ∈ Bundle.ownAtoms0 own ic cls names, a.before args s = true) (hcl : (Cond.classLink own ix cls).before args s = true) (hini : (Cond.initialized cls).before args s = true)
    (hno : c.exceptionTable.isEmpty = true) (hlocs : ∀ x ∈ locs, ∀ cell, s.heap[x.base]? = some cell → cell.vm.isStatics = false) (hz : s.heap.size ≤ H.size) (hml : ls.size = c.maxLocals)
    (hd0 : decode cc pc = .ok (.new ix, 3)) (hd3 : decode cc (pc + 3) = .ok (.dup, 1)) (hd4 : decode cc (pc + 4) = .ok (.invokespecial ic, 3)) (hd7 : decode cc (pc + 7) = .ok (.athrow, 1))
    (hcells : cells + 1 ≤ R.cells) (hslots : slots + 6 ≤ R.slots) (hRf : names.length + 3 < R.frames) (hRl : 1 + (13 * (names.length + 1) + 41) ≤ R.locals) (hlocks : meth.locks = false)
    {Qc : Array Value → State → Outcome → State → Prop} {free : Addr → Prop} (hf : ∀ q ∈ locs, free q.base)
    (hq : ∀ (t : State) (ce : Cell), t.heap = H.push ce → s.vm.findClass cls = some ce.cls → ce.vm = .none → s.WarmedH t.vm → Qc args s (.threw H.size) t) :
    W p l e R s m args below meth c H locs cells slots (xm_Q below Qc args s (cells + 1) (slots + 6) free) (F0 m pc ls []) := by
  refine W.newc hexec hb hown hcl (h (.instantiable cls 6) (by simp [Bundle.ownAtoms0])) hini rfl hd0 hcells hslots (fun cX kX hfX hkX hord hn => ?_)
  refine W.eq (g2 := F0 m (pc + 3) ls [.ref H.size]) rfl ?_
  refine lv_dup hexec hb hd3 rfl ?_
  refine W.eq (g2 := F0 m (pc + 4) ls [.ref H.size, .ref H.size]) rfl ?_
  intro V hV X
  have hcell : V.heap[H.size]? = some (freshCell cX kX) := by
    rw [hV]
    simp
  obtain ⟨U, ce, hU, X', hc1, hc2, st⟩ := xm_init X hexec (xm_tr X.admits htl) hown hcls hnames h hlocs hfX hkX hcell hz (g := F0 m (pc + 4) ls [.ref H.size, .ref H.size]) rfl hml (rest := [.ref H.size]) rfl (by rw [hb]; exact hd4) hRf (by simpa [Value.category] using hRl)
  obtain ⟨hwalk, hrun, hended, hW, hsame⟩ := X'.athrowLeaves hexec (g := F0 m (pc + 4 + 3) ls [.ref H.size]) rfl rfl rfl (fun x hx => by
    rw [Array.isEmpty_iff.mp hno] at hx
    cases hx) (a := H.size) (rest := []) rfl (by rw [hb]; exact hd7) hlocks
  refine ⟨_, st _ hwalk, .threw H.size, hrun, hended, hq _ ce ?_ (by rw [hc1]; exact hfX) hc2 hW, locs, ⟨hW, hsame⟩, hf⟩
  show U.heap = H.push ce
  rw [hU, hV, xm_push]
/-- a call that may throw: what comes back -/
def xm_Run (p : Program) (l : Launch) (e : Env) (R : Room) (s : State) (m : MethodId) (args : Array Value) (below : List Frame) (meth : Method) (c : Code) (H : Heap) (locs : List Loc) (cells slots mc ms : Nat) (g : JFrame) (rest : List Value) (Qa : State → Outcome → State → Prop) (free : Addr → Prop) : Prop :=
  ∀ T : State, T.heap = H → Stand p l e R s m args below meth c T locs cells slots → ∃ (st₀ t T' : State) (L : List Loc), st₀.heap = H ∧ s.WarmedH st₀.vm ∧ Stand p l e R s m args below meth c T' (locs ++ L) (cells + mc) (slots + ms) ∧ (∀ q ∈ L, free q.base) ∧ T'.heap = t.heap ∧ T'.vm = t.vm ∧
    ((∃ v, Qa st₀ (.returned v) t ∧ Goes p e below T g T' { g with pc := g.pc + 3, stack := v.toList ++ rest }) ∨
     (∃ x, Qa st₀ (.threw x) t ∧ Steps p.tables e below (T.setTop g) ((T'.setTop { g with stack := rest }).pushFrame (.throwing x))))
set_option maxHeartbeats 4000000 in
theorem xm_runV {y : MethodName} {bytes : ByteArray} {maxL nL mc ms n index : Nat} {ret : Option FieldType} {ws Ts : List Cond} {rm : Room} {Pc : Array Value → State → Prop} {Qc : Array Value → State → Outcome → State → Prop} {free : Addr → Prop} {own C : String} {b : Addr} {As rest : List Value} {g : JFrame}
    (S : CallFix p m c cc nL s args Ts own) (hM : xm_Met l y ws rm Pc Qc mc ms free) (cw : CallW R s args own C index y bytes maxL ret ws rm mc ms n) (hp : PreV s H C b Pc As)
    (hg : g.method = m) (hn : As.length = n) (hsize : g.locals.size = nL) (hstack : g.stack = As.reverse ++ .ref b :: rest) (hW : 2 * g.monitorRoom + (rest.map fun v => v.category).sum ≤ 8) (hdg : decode cc g.pc = .ok (.invokevirtual index, 3)) (hf : cells + mc ≤ R.cells ∧ slots + ms ≤ R.slots) :
    xm_Run p l e R s m args below meth c H locs cells slots mc ms g rest (Qc (Value.ref b :: As).toArray) free := by
  obtain ⟨⟨hrc, hrs, hfr, hlo, hws, hcw, hcode, hini, hy, hlen, hl⟩, hin, hse⟩ := cw
  obtain ⟨hx, hb, hml, ho, -⟩ := S
  obtain ⟨hbl, ⟨cellB, hcB, hoB, hclB⟩, hPc⟩ := hp
  subst hb
  intro T hT X
  obtain ⟨mk, methM, hnamed, hmethM, hstM, habM⟩ := Cond.instanceMethod_spec hin
  obtain ⟨methM', cM, hmethM', -, -, -, -, -, -, hsigM⟩ := Cond.code_spec hnamed hcode
  cases hmethM.symm.trans hmethM'
  obtain ⟨c2, r2, m2, q1, q2, q3, q4, kP, hkP, hkPi⟩ := Cond.selects_spec hse
  cases hclB.symm.trans q1
  cases (State.methodFound?_of_named hnamed hy).symm.trans q2
  cases hnamed.symm.trans q3
  have hselP : selectMethod e.platform s.vm cellB.cls mk = .method mk := by rw [Launch.admits_selectMethod X.admits]; exact q4
  obtain ⟨vm₁, X₁, hstep₁⟩ := X.invokevirtual hx ho hl hnamed hmethM hstM hkP hkPi hy (a := b) (cell := cellB) (by rw [hT]; exact hcB)
    (fun z h => by rw [h] at hoB; cases hoB) hselP hmethM habM hkP hkPi (g := g) hg (argsL := As) (rest := rest) (hn.trans (hlen _ hsigM)) hstack hdg
  have hWc : ∀ w ∈ ws, w.before (Value.ref b :: As).toArray (T.setVm vm₁) = true := fun w hw => hws w hw _ _ X₁.warmed
  have hnm : (T.setVm vm₁).methodNamed? y = some mk := X₁.named hnamed
  obtain ⟨methY, cY, hmY, hcY, -, hlY, -, -, -, -⟩ := Cond.code_spec hnm (hWc _ hcw)
  obtain ⟨kY, hkY, -⟩ := className_of_methodNamed hnm
  have hinitY : kY.init = .initialized := Cond.initialized_spec (findClass_of_methodNamed hnm) hkY (word_at (a' := #[]) X₁.warmed (Or.inl (by first | rfl | simp [Cond.onTables, Cond.keeps, Cond.steady])) hini)
  have hAt : At (T.setVm vm₁) ({ g with stack := rest } : JFrame).method c below := by
    show At (T.setVm vm₁) g.method c below
    rw [hg]
    exact X₁.here
  have happ : (headSpec ws rm).appliesLoose y e.platform ((T.setVm vm₁).calling { g with stack := rest } mk (Value.ref b :: As).toArray) = true :=
    Spec.appliesLoose_calling (g := { g with stack := rest }) hAt hdg hnm hkY hinitY
      (X₁.room_calling (g := { g with stack := rest }) (R' := rm) (hsize.trans hml.symm) hmY hcY hfr (by
        rw [hlY]
        show 2 * g.monitorRoom + (rest.map fun v => v.category).sum + (maxL + 11) + rm.locals ≤ R.locals
        omega) (by rw [hrc]; exact hf.1) (by rw [hrs]; exact hf.2)) (atoms_intro hWc)
  obtain ⟨mid, hmid⟩ := hAt.above
  have hfrm : ((T.setVm vm₁).setTop { g with stack := rest }).frames = (.java { g with stack := rest } :: mid) ++ below := by rw [State.frames_setTop' _ hAt.top, hmid]; rfl
  obtain ⟨o, s₂, hsteps, -, hend, hq1, L, ⟨hW2, hsame⟩, hL⟩ := Steps.callFree hM p X.admits X.cas X.clock (acts := []) hfrm happ (hbl _ _ _ _ (hPc (T.setVm vm₁) hT X₁.warmed)) trivial
  rw [State.frames_setTop' _ hAt.top, X₁.tail] at hend
  cases o with
  | returned v =>
    obtain ⟨T', X', -, -, ht⟩ := X₁.outOf (g := { g with stack := rest }) hg hdg (mk := mk) (a := (Value.ref b :: As).toArray) hend hW2 hsame
    refine ⟨(T.setVm vm₁).calling { g with stack := rest } mk (Value.ref b :: As).toArray, s₂, T', L, hT, X₁.warmed, X', hL, by rw [ht]; rfl, by rw [ht]; rfl, Or.inl ⟨v, hq1, fun target h => hstep₁ _ fun acts => ?_⟩⟩
    rw [doInvoke_state]
    refine hsteps.trans ?_
    rw [ht]
    exact h
  | threw x =>
    obtain ⟨T', X', -, -, ht⟩ := X₁.outOfThrown (g := { g with stack := rest }) hg (mk := mk) (a := (Value.ref b :: As).toArray) hend hW2 hsame
    refine ⟨(T.setVm vm₁).calling { g with stack := rest } mk (Value.ref b :: As).toArray, s₂, T', L, hT, X₁.warmed, X', hL, by rw [ht]; rfl, by rw [ht]; rfl, Or.inr ⟨x, hq1, hstep₁ _ fun acts => ?_⟩⟩
    rw [doInvoke_state]
    rw [ht] at hsteps
    exact hsteps
/-- what the search for a handler gives, and the tables that it leaves -/
def xm_Fi (e : Env) (s : State) (f : JFrame) (a : Addr) (h : Handler) (vm' : Vm) : Prop :=
  ∀ (Q : Handler → Pre) (E : CtlPost) (d : Bool) (acts : List Action), wp (findHandler f a) Q E e d acts s ↔ Q h d acts (s.setVm vm')
theorem xm_go {f : JFrame} {a : Addr} {x : ExceptionTableEntry} {t : List ExceptionTableEntry} {k : ClassId} {cell : Cell} {V : State} (hx : covers x f.pc = true) (h0 : x.catchType ≠ 0)
    (hl : V.vm.ClassLinks e.platform f.method.cls x.catchType k) (hcell : V.heap[a]? = some cell) (hobj : ∀ z, cell.vm ≠ .statics z) (hk : ∃ z, V.vm.classes[cell.cls]? = some z) (hc : ∃ z, V.vm.classes[k]? = some z)
    (Q : Handler → Pre) (E : CtlPost) (d : Bool) (acts : List Action) :
    (V.vm.assignable cell.cls k = true → (wp (findHandler.go f a (x :: t)) Q E e d acts V ↔ Q (.found x.handlerPc) d acts (V.setVm (V.vm.noted f.method.cls x.catchType (.cls k))))) ∧
    (V.vm.assignable cell.cls k = false → (wp (findHandler.go f a (x :: t)) Q E e d acts V ↔ wp (findHandler.go f a t) Q E e d acts (V.setVm (V.vm.noted f.method.cls x.catchType (.cls k))))) := by
  simp only [covers] at hx
  obtain ⟨ha, ht⟩ := (resolveClass_links e.toSetting hl).op (op := VmOp.resolveClass f.method.cls x.catchType) rfl
  have hal : V.vm.Alike (V.vm.noted f.method.cls x.catchType (.cls k)) := (Vm.Alike.refl V.vm).noted _ _ _
  obtain ⟨k1, hk1⟩ := hk
  obtain ⟨k2, hk2⟩ := hc
  obtain ⟨k1', hk1', -⟩ := hal.2.2 _ _ hk1
  obtain ⟨k2', hk2', -⟩ := hal.2.2 _ _ hk2
  refine ⟨fun hfit => ?_, fun hfit => ?_⟩
  · have hfit' : (V.vm.noted f.method.cls x.catchType (.cls k)).assignable cell.cls k = true := by rw [hal.assignable]; exact hfit
    simp [findHandler.go, hx, h0, ha, ht, hcell, hobj, hk1', hk2', hfit', VmOp.dirties, VmOp.acts]
  · have hfit' : (V.vm.noted f.method.cls x.catchType (.cls k)).assignable cell.cls k = false := by rw [hal.assignable]; exact hfit
    simp [findHandler.go, hx, h0, ha, ht, hcell, hobj, hk1', hk2', hfit', VmOp.dirties, VmOp.acts]
theorem xm_step {V : State} {a : Addr} {f : JFrame} {r : List Frame} {q : Nat} {vm' : Vm} (hfind : xm_Fi e V f a (.found q) vm') :
    (stepThrowing e V a (.java f :: r)).Is ((V.setVm vm').setFrames (.java { f with pc := q, stack := [.ref a] } :: r)) [] := by
  simp only [stepThrowing, searchFrame, vmDo]
  generalize hr : Sem.go _ e false [] V = res
  obtain ⟨as, rfl, ha⟩ := Sem.eq_ok_of hr (a := Handler.found q) (s' := V.setVm vm') (acts' := []) (by simp [hfind _ _ _ _])
  exact ⟨rfl, ha⟩
theorem xm_caught {tb : Tables} {T target : State} {g : JFrame} {a : Addr} (h : At T g.method c below) {q : Nat} {vm' : Vm}
    (hfind : xm_Fi e ((T.setTop g).pushFrame (.throwing a)) g a (.found q) vm') (hrest : Steps tb e below ((T.setVm vm').setTop { g with pc := q, stack := [.ref a] }) target) :
    Steps tb e below ((T.setTop g).pushFrame (.throwing a)) target := by
  obtain ⟨hgo, hw⟩ := h.throwing a
  refine Steps.head hgo hw ?_
  rw [stepThread_throwing (frames_entered h.top _), (xm_step (V := (T.setTop g).pushFrame (.throwing a)) hfind).1]
  obtain ⟨g₀, hg⟩ := Option.isSome_iff_exists.mp h.top
  obtain ⟨r, hr⟩ := State.topJava?_eq_some.mp hg
  have hr' : (T.setVm vm').frames = .java g₀ :: r := hr
  have e1 : ∀ (u : State) (F G : List Frame), ((u.setFrames F).setVm vm').setFrames G = (u.setVm vm').setFrames G := fun u F G => by
    have h1 : (u.setFrames F).setVm vm' = (u.setVm vm').setFrames F := rfl
    rw [h1, State.setFrames_setFrames]
  rw [State.setTop_of_frames _ hr'] at hrest
  rw [hr, List.tail_cons, State.pushFrame, e1, State.setTop_of_frames _ hr, e1]
  exact hrest
/-- caught by the table's first row -/
theorem xm_catch1 {T : State} (X : Stand p l e R s m args below meth c T locs cells slots) (a : Addr) {g : JFrame} (hg : g.method = m) {own name tn : String} (hown : s.vm.findClass own = some m.cls)
    {x : ExceptionTableEntry} {t : List ExceptionTableEntry} (hsplit : c.exceptionTable.toList = x :: t) (hx : covers x g.pc = true) (h0 : x.catchType ≠ 0) (hlink : (Cond.classLink own x.catchType name).before args s = true)
    {cell : Cell} (hcell : T.heap[a]? = some cell) (hobj : cell.vm = .none) (htn : s.vm.findClass tn = some cell.cls) (hcast : (Cond.castable tn name).before args s = true) :
    ∃ vm', Stand p l e R s m args below meth c (T.setVm vm') locs cells slots ∧
      ∀ target, Steps p.tables e below ((T.setVm vm').setTop { g with pc := x.handlerPc, stack := [.ref a] }) target → Steps p.tables e below ((T.setTop g).pushFrame (.throwing a)) target := by
  have hpl : e.platform.magicAccessors = ({} : Platform).magicAccessors := by rw [X.admits.platform]
  obtain ⟨k, hck, hcl⟩ := Cond.classLink_spec hown hlink e.platform hpl
  obtain ⟨c1, t1, f1, f2, f3⟩ := Cond.castable_spec hcast
  cases htn.symm.trans f1
  cases hck.symm.trans f2
  subst hg
  obtain ⟨dk, _, _, kt, hd, _, _, _, _, hkt, _, hopen⟩ := hcl.here
  obtain ⟨kt', hkt', -⟩ := X.warmed.alike.2.2 _ _ hkt
  have hfit : T.vm.assignable cell.cls k = true := by rw [X.warmed.alike.assignable]; exact f3
  have hW' : s.WarmedH (T.vm.noted g.method.cls x.catchType (.cls k)) := X.warmed.noted hd hopen (State.rightAt_cls hcl)
  refine ⟨_, X.noted hW', fun target hrest => xm_caught X.here (fun Q E d acts => ?_) hrest⟩
  rw [W.findHandler_eq (s := (T.setTop g).pushFrame (.throwing a)) X.method' X.code, hsplit]
  exact (xm_go (V := (T.setTop g).pushFrame (.throwing a)) hx h0 (X.warmed.classLinks hcl) hcell (VmData.ne_statics_of (by rw [hobj]; rfl)) (Vm.classAt_of_assignable hfit ⟨kt', hkt'⟩) ⟨kt', hkt'⟩ Q E d acts).1 hfit
/-- passed by the first row, caught by the second -/
theorem xm_catch2 {T : State} (X : Stand p l e R s m args below meth c T locs cells slots) (a : Addr) {g : JFrame} (hg : g.method = m) {own name name1 tn : String} (hown : s.vm.findClass own = some m.cls)
    {x x1 : ExceptionTableEntry} {t : List ExceptionTableEntry} (hsplit : c.exceptionTable.toList = x1 :: x :: t) (hx1 : covers x1 g.pc = true) (h01 : x1.catchType ≠ 0) (hlink1 : (Cond.classLink own x1.catchType name1).before args s = true)
    (hx : covers x g.pc = true) (h0 : x.catchType ≠ 0) (hlink : (Cond.classLink own x.catchType name).before args s = true)
    {cell : Cell} (hcell : T.heap[a]? = some cell) (hobj : cell.vm = .none) (htn : s.vm.findClass tn = some cell.cls) (hno : va_Nc tn name1 s) (hcast : (Cond.castable tn name).before args s = true) :
    ∃ vm', Stand p l e R s m args below meth c (T.setVm vm') locs cells slots ∧
      ∀ target, Steps p.tables e below ((T.setVm vm').setTop { g with pc := x.handlerPc, stack := [.ref a] }) target → Steps p.tables e below ((T.setTop g).pushFrame (.throwing a)) target := by
  have hpl : e.platform.magicAccessors = ({} : Platform).magicAccessors := by rw [X.admits.platform]
  obtain ⟨k, hck, hcl⟩ := Cond.classLink_spec hown hlink e.platform hpl
  obtain ⟨k1, hck1, hcl1⟩ := Cond.classLink_spec hown hlink1 e.platform hpl
  obtain ⟨c1, t1, f1, f2, f3⟩ := Cond.castable_spec hcast
  obtain ⟨c9, t9, n1, n2, n3⟩ := hno
  cases htn.symm.trans f1
  cases hck.symm.trans f2
  cases htn.symm.trans n1
  cases hck1.symm.trans n2
  subst hg
  obtain ⟨dk, _, _, kt, hd, _, _, _, _, hkt, _, hopen⟩ := hcl.here
  obtain ⟨dk1, _, _, kt1, hd1, _, _, _, _, hkt1, _, hopen1⟩ := hcl1.here
  have hfit : T.vm.assignable cell.cls k = true := by rw [X.warmed.alike.assignable]; exact f3
  have hno1 : T.vm.assignable cell.cls k1 = false := by rw [X.warmed.alike.assignable]; exact n3
  obtain ⟨kt', hkt', -⟩ := X.warmed.alike.2.2 _ _ hkt
  obtain ⟨kt1', hkt1', -⟩ := X.warmed.alike.2.2 _ _ hkt1
  have hW1 : s.WarmedH (T.vm.noted g.method.cls x1.catchType (.cls k1)) := X.warmed.noted hd1 hopen1 (State.rightAt_cls hcl1)
  obtain ⟨kt2, hkt2, -⟩ := hW1.alike.2.2 _ _ hkt
  have hfit1 : (T.vm.noted g.method.cls x1.catchType (.cls k1)).assignable cell.cls k = true := by rw [hW1.alike.assignable]; exact f3
  have hW' : s.WarmedH ((T.vm.noted g.method.cls x1.catchType (.cls k1)).noted g.method.cls x.catchType (.cls k)) := hW1.noted hd hopen (State.rightAt_cls hcl)
  refine ⟨_, X.noted hW', fun target hrest => xm_caught X.here (fun Q E d acts => ?_) hrest⟩
  rw [W.findHandler_eq (s := (T.setTop g).pushFrame (.throwing a)) X.method' X.code, hsplit]
  refine ((xm_go (V := (T.setTop g).pushFrame (.throwing a)) hx1 h01 (X.warmed.classLinks hcl1) hcell (VmData.ne_statics_of (by rw [hobj]; rfl)) (Vm.classAt_of_assignable hfit ⟨kt', hkt'⟩) ⟨kt1', hkt1'⟩ Q E d acts).2 hno1).trans ?_
  exact (xm_go (V := ((T.setTop g).pushFrame (.throwing a)).setVm (T.vm.noted g.method.cls x1.catchType (.cls k1))) hx h0 (hW1.classLinks hcl) hcell (VmData.ne_statics_of (by rw [hobj]; rfl)) (Vm.classAt_of_assignable hfit1 ⟨kt2, hkt2⟩) ⟨kt2, hkt2⟩ Q E d acts).1 hfit1
end Xn
-- methods that may throw: their ends
def zz_Qx (D : va_G) (cl : List vw_C) (nmf : Int32 → String) (code : Int32) (r : Value) (w' : va_W) (A : Nat → Prop) : Array Value → State → Outcome → State → Prop := fun _ st o t =>
  ((code = 0 ∧ o = .returned (some r)) ∨ (¬ code = 0 ∧ ∃ (x : Nat) (ce : Cell), o = .threw x ∧ t.heap[x]? = some ce ∧ ce.vm = .none ∧ st.vm.findClass (nmf code) = some ce.cls)) ∧ zz_B D cl A w' t ∧ va_F A st t
abbrev zt_nis (c : Int32) : String := if c = 1 then zx_ia else zx_is
abbrev zt_nar (c : Int32) : String := if c = 1 then zx_ia else zx_ar
section Zy
variable {p : Program} {l : Launch} {e : Env} {R : Room} {s : State} {m : MethodId} {args : Array Value} {below : List Frame} {meth : Method} {c : Code} {D : va_G} {cl : List vw_C} {w' : va_W} {A : Nat → Prop} {cc : ByteArray} {nL : Nat} {nmf : Int32 → String} {code : Int32} {g : JFrame} {H0 : Heap} {L0 : List Loc}
/-- a raise, as the methods use it -/
def zz_Th (p : Program) (l : Launch) (e : Env) (R : Room) (s : State) (m : MethodId) (args : Array Value) (below : List Frame) (meth : Method) (c : Code) (D : va_G) (cl : List vw_C) (w' : va_W) (A : Nat → Prop) (cc : ByteArray) (nL : Nat) (nmf : Int32 → String) (code : Int32) (Qq : State → Prop) : Prop :=
  ∀ (pc : Nat) (ls : Array Slot) (H : Heap) (locs : List Loc) (own cls : String) (names : List String) (ic ix : Nat), ls.size = nL → ¬ code = 0 → nmf code = cls → s.vm.findClass own = some m.cls → Bundle.fit cls = true → (∀ n ∈ names, Bundle.fit n = true) → (∀ a ∈ Bundle.ownAtoms0 own ic cls names, a.before args s = true) → (Cond.classLink own ix cls).before args s = true → (Cond.initialized cls).before args s = true →
    decode cc pc = .ok (.new ix, 3) → decode cc (pc + 3) = .ok (.dup, 1) → decode cc (pc + 4) = .ok (.invokespecial ic, 3) → decode cc (pc + 7) = .ok (.athrow, 1) → 0 + 1 ≤ R.cells → 0 + 6 ≤ R.slots → names.length + 3 < R.frames → 1 + (13 * (names.length + 1) + 41) ≤ R.locals →
    va_P D cl w' H → va_D A w' → va_S A s.heap H locs → W p l e R s m args below meth c H locs 0 0 Qq (F0 m pc ls [])
theorem zz_th {r : Value} (hx : p.tables.exec = Jvm.exec) (hb : c.code = cc) (hlocks : meth.locks = false) (hml : c.maxLocals = nL) (hno : c.exceptionTable.isEmpty = true) (htl : l.stackTraces = false)
    (hlc : ∀ (H : Heap) (locs : List Loc), va_S A s.heap H locs → ∀ x ∈ locs, ∀ cell, s.heap[x.base]? = some cell → cell.vm.isStatics = false) :
    zz_Th p l e R s m args below meth c D cl w' A cc nL nmf code (xm_Q below (zz_Qx D cl nmf code r w' A) args s 1 6 A) := by
  intro pc ls H locs own cls names ic ix hsz hne hnm hown hcls hnames hat hcl hini d0 d3 d4 d7 hc hs hRf hRl hP hD hS
  refine xm_raise hx hb htl hown hcls hnames hat hcl hini hno (hlc H locs hS) hS.1 (hsz.trans hml.symm) d0 d3 d4 d7 hc hs hRf hRl hlocks hS.2.2 (fun t ce ht hf hv hW => ⟨Or.inr ⟨hne, H.size, ce, rfl, ?_, hv, ?_⟩, ⟨?_, hD⟩, ?_, ?_⟩)
  · rw [ht]
    simp
  · rw [hnm]
    exact hf
  · intro k q hk
    refine (hP k q hk).kept ?_
    rw [ht, Array.getElem?_push, if_neg (Nat.ne_of_lt (hP k q hk).lt)]
  · rw [ht, Array.size_push]
    exact Nat.le_succ_of_le hS.1
  · intro q h1 h2
    rw [ht, Array.getElem?_push, if_neg (Nat.ne_of_lt (Nat.lt_of_lt_of_le h1 hS.1))]
    exact hS.2.1 q h1 h2
theorem zz_endxi {r : Int32} (hx : p.tables.exec = Jvm.exec) (hb : c.code = cc) (hr : meth.sig.returnType = some .int) (hlocks : meth.locks = false) (hml : c.maxLocals = nL) (hno : c.exceptionTable.isEmpty = true) (htl : l.stackTraces = false)
    (hlc : ∀ (H : Heap) (locs : List Loc), va_S A s.heap H locs → ∀ x ∈ locs, ∀ cell, s.heap[x.base]? = some cell → cell.vm.isStatics = false)
    (k : ∀ Qq : State → Prop, (∀ (pc : Nat) (ls : Array Slot) (H : Heap) (locs : List Loc), code = 0 → decode cc pc = .ok (.ireturn, 1) → va_P D cl w' H → va_D A w' → va_S A s.heap H locs → W p l e R s m args below meth c H locs 0 0 Qq (F0 m pc ls [.int r])) →
      zz_Th p l e R s m args below meth c D cl w' A cc nL nmf code Qq → W p l e R s m args below meth c H0 L0 0 0 Qq g) :
    W p l e R s m args below meth c H0 L0 0 0 (xm_Q below (zz_Qx D cl nmf code (.int r) w' A) args s 1 6 A) g :=
  k _ (fun pc ls H locs hc hd hP hD hS => W.widen (k := 1) (n := 6) (Nat.zero_le _) (Nat.zero_le _) (xm_mono (fun t h => xm_Q_of t h) (W.iret (v := r) hx hb hr (fun t ht hW => ⟨Or.inl ⟨hc, rfl⟩, ⟨by rw [ht]; exact hP, hD⟩, hS.F ht⟩) hS.2.2 hd))) (zz_th hx hb hlocks hml hno htl hlc)
theorem zz_endxl {r : Int64} (hx : p.tables.exec = Jvm.exec) (hb : c.code = cc) (hr : meth.sig.returnType = some .long) (hlocks : meth.locks = false) (hml : c.maxLocals = nL) (hno : c.exceptionTable.isEmpty = true) (htl : l.stackTraces = false)
    (hlc : ∀ (H : Heap) (locs : List Loc), va_S A s.heap H locs → ∀ x ∈ locs, ∀ cell, s.heap[x.base]? = some cell → cell.vm.isStatics = false)
    (k : ∀ Qq : State → Prop, (∀ (pc : Nat) (ls : Array Slot) (H : Heap) (locs : List Loc), code = 0 → decode cc pc = .ok (.lreturn, 1) → va_P D cl w' H → va_D A w' → va_S A s.heap H locs → W p l e R s m args below meth c H locs 0 0 Qq (F0 m pc ls [.long r])) →
      zz_Th p l e R s m args below meth c D cl w' A cc nL nmf code Qq → W p l e R s m args below meth c H0 L0 0 0 Qq g) :
    W p l e R s m args below meth c H0 L0 0 0 (xm_Q below (zz_Qx D cl nmf code (.long r) w' A) args s 1 6 A) g :=
  k _ (fun pc ls H locs hc hd hP hD hS => W.widen (k := 1) (n := 6) (Nat.zero_le _) (Nat.zero_le _) (xm_mono (fun t h => xm_Q_of t h) (W.lret (v := r) hx hb hr (fun t ht hW => ⟨Or.inl ⟨hc, rfl⟩, ⟨by rw [ht]; exact hP, hD⟩, hS.F ht⟩) hS.2.2 hd))) (zz_th hx hb hlocks hml hno htl hlc)
end Zy
theorem zz_out0_4 {x : Int32} (h0 : ¬ x = 0) (h1 : ¬ x = 1) (h2 : ¬ x = 2) (h3 : ¬ x = 3) (h4 : ¬ x = 4) : x.toInt < 0 ∨ 4 < x.toInt := by
  have key : ∀ k : Int32, ¬ x = k → x.toInt ≠ k.toInt := fun k h q => h (Int32.toInt_inj.mp q)
  have e0 := key 0 h0
  have e1 := key 1 h1
  have e2 := key 2 h2
  have e3 := key 3 h3
  have e4 := key 4 h4
  have t0 : (0 : Int32).toInt = 0 := by decide
  have t1 : (1 : Int32).toInt = 1 := by decide
  have t2 : (2 : Int32).toInt = 2 := by decide
  have t3 : (3 : Int32).toInt = 3 := by decide
  have t4 : (4 : Int32).toInt = 4 := by decide
  rw [t0] at e0
  rw [t1] at e1
  rw [t2] at e2
  rw [t3] at e3
  rw [t4] at e4
  omega
theorem zt_n10 : ¬ (1 : Int32) = 0 := by decide
theorem zt_n20 : ¬ (2 : Int32) = 0 := by decide
theorem zt_n21 : ¬ (2 : Int32) = 1 := by decide
