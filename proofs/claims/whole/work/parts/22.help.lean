-- the law's three helpers: a call that may throw, and its handlers
theorem zt_tab1 {l : List ExceptionTableEntry} {a b c d : Nat} (h : l.map (fun h => (h.startPc, h.endPc, h.handlerPc, h.catchType)) = [(a, b, c, d)]) : l = [⟨a, b, c, d⟩] := by
  cases l with
  | nil => cases h
  | cons x t =>
    cases t with
    | nil =>
      obtain ⟨x1, x2, x3, x4⟩ := x
      simp only [List.map_cons, List.map_nil, List.cons.injEq, Prod.mk.injEq, and_true] at h
      obtain ⟨rfl, rfl, rfl, rfl⟩ := h
      rfl
    | cons y r => simp at h
theorem zt_tab2 {l : List ExceptionTableEntry} {a b c d a1 b1 c1 d1 : Nat} (h : l.map (fun h => (h.startPc, h.endPc, h.handlerPc, h.catchType)) = [(a, b, c, d), (a1, b1, c1, d1)]) : l = [⟨a, b, c, d⟩, ⟨a1, b1, c1, d1⟩] := by
  cases l with
  | nil => cases h
  | cons x t =>
    simp only [List.map_cons, List.cons.injEq] at h
    obtain ⟨h1, h2⟩ := h
    rw [zt_tab1 h2]
    obtain ⟨x1, x2, x3, x4⟩ := x
    simp only [Prod.mk.injEq] at h1
    obtain ⟨rfl, rfl, rfl, rfl⟩ := h1
    rfl
theorem zt_tabOf {p : Program} {l : Launch} {y : MethodName} {S : Spec} {code : ByteArray} {maxL : Nat} {ret : Option FieldType} {e : Env} {s : State} {m : MethodId} {args : Array Value} {below : List Frame} {meth : Method} {c : Code} {s₁ : State} {hh : List (Nat × Nat × Nat × Nat)} (B : BodyLoose p l y S code maxL ret e s m args below meth c s₁) (h : (Cond.codeWith y code maxL ret hh).before args s = true) : c.exceptionTable.toList.map (fun h => (h.startPc, h.endPc, h.handlerPc, h.catchType)) = hh := by
  obtain ⟨m9, meth', c', hn9, h1, h2, -, -, h5, -⟩ := Cond.codeWith_spec h
  cases B.named.symm.trans hn9
  cases B.method.symm.trans h1
  cases (Stand.of_body B).code.symm.trans h2
  exact h5
section Zh
variable {p : Program} {l : Launch} {e : Env} {R : Room} {s : State} {m : MethodId} {args : Array Value} {below : List Frame} {meth : Method} {c : Code} {H : Heap} {locs : List Loc} {cells slots : Nat} {Q : State → Prop}
variable {D : va_G} {cl : List vw_C} {ws wc w' ws' : va_W} {A : Nat → Prop} {pc : Nat} {ls : Array Slot} {rest st0 : List Value} {a : Array Value} {mc ms : Nat}
theorem zx_call {code : Int32} {r : Value} {nmf : Int32 → String} (hP : va_P D cl ws H) (hD : va_D A ws) (hS : va_S A s.heap H locs) (hA : ∀ q, s.heap.size ≤ q → A q) (isC isR perm : List Nat) (hC : isC.map (fun i => ws[i]?) = wc.map some) (hR : isR.map (fun i => ws[i]?) = (isR.filterMap (fun i => ws[i]?)).map some) (hn : va_nd isR = true) (hdis : ∀ i ∈ isR, i ∉ isC)
    (hp : perm.map (fun i => (isR.filterMap (fun i => ws[i]?) ++ w')[i]?) = ws'.map some) (hpn : va_nd perm = true)
    (hr : xm_Run p l e R s m args below meth c H locs cells slots mc ms (F0 m pc ls st0) rest (zz_Qx D cl nmf code r w' (va_A wc H.size) a) (va_A wc H.size))
    (kr : code = 0 → ∀ (H1 : Heap) (locs1 : List Loc), va_P D cl ws' H1 → va_D A ws' → va_S A s.heap H1 locs1 → W p l e R s m args below meth c H1 locs1 (cells + mc) (slots + ms) Q (F0 m (pc + 3) ls (r :: rest)))
    (kt : ¬ code = 0 → ∀ (x : Nat) (ce : Cell) (T' : State) (locs1 : List Loc), T'.heap[x]? = some ce → ce.vm = .none → s.vm.findClass (nmf code) = some ce.cls → va_P D cl ws' T'.heap → va_D A ws' → va_S A s.heap T'.heap locs1 → Stand p l e R s m args below meth c T' locs1 (cells + mc) (slots + ms) → ∃ t, Steps p.tables e below ((T'.setTop (F0 m pc ls rest)).pushFrame (.throwing x)) t ∧ Q t) :
    W p l e R s m args below meth c H locs cells slots Q (F0 m pc ls st0) := by
  have hF := va_free hD hS hA isC hC
  intro T hT X
  obtain ⟨st₀, t, T', L, h0, hW0, X', hL, e1, e2, h⟩ := hr T hT X
  have mkS : H.size ≤ T'.heap.size → (∀ q : Nat, q < H.size → ¬ va_A wc H.size q → T'.heap[q]? = H[q]?) → va_S A s.heap T'.heap (locs ++ L) := fun hz hk =>
    ⟨Nat.le_trans hS.1 hz, fun q h1 h2 => by
      rw [hk q (Nat.lt_of_lt_of_le h1 hS.1) (fun z => h2 (hF q z))]
      exact hS.2.1 q h1 h2, fun q hq => by
      rcases List.mem_append.mp hq with h | h
      · exact hS.2.2 q h
      · exact hF _ (hL q h)⟩
  rcases h with ⟨v, ⟨hq, hB, hz, hk⟩, st⟩ | ⟨x, ⟨hq, hB, hz, hk⟩, st⟩
  · rw [h0, ← e1] at hz
    rw [h0, ← e1] at hk
    have hB1 : va_P D cl w' T'.heap := by rw [e1]; exact hB.1
    obtain ⟨g1, g2⟩ := zz_back hP hD hS hA isC isR perm hC hR hn hdis hp hpn hk hB1 hB.2
    rcases hq with ⟨hc, hv⟩ | ⟨-, x, ce, hv, -⟩
    · cases hv
      obtain ⟨t2, a1, b1⟩ := kr hc T'.heap (locs ++ L) g1 g2 (mkS hz hk) T' rfl X'
      exact ⟨t2, st t2 a1, b1⟩
    · cases hv
  · rw [h0, ← e1] at hz
    rw [h0, ← e1] at hk
    have hB1 : va_P D cl w' T'.heap := by rw [e1]; exact hB.1
    obtain ⟨g1, g2⟩ := zz_back hP hD hS hA isC isR perm hC hR hn hdis hp hpn hk hB1 hB.2
    rcases hq with ⟨-, hv⟩ | ⟨hne, y, ce, hv, hce, hvm, hfc⟩
    · cases hv
    · cases hv
      obtain ⟨t2, a1, b1⟩ := kt hne x ce T' (locs ++ L) (by rw [e1]; exact hce) hvm (by rw [← hW0.alike.findClass]; exact hfc) g1 g2 (mkS hz hk) X'
      exact ⟨t2, st.trans a1, b1⟩
theorem zz_endim {cc : ByteArray} {r : Int32} {g : JFrame} {H0 : Heap} {L0 : List Loc} (hx : p.tables.exec = Jvm.exec) (hb : c.code = cc) (hr : meth.sig.returnType = some .int) (hlocks : meth.locks = false)
    (k : ∀ Qq : State → Prop, (∀ (pc : Nat) (ls : Array Slot) (H : Heap) (locs : List Loc), decode cc pc = .ok (.ireturn, 1) → va_P D cl w' H → va_D A w' → va_S A s.heap H locs → W p l e R s m args below meth c H locs mc ms Qq (F0 m pc ls [.int r])) → W p l e R s m args below meth c H0 L0 0 0 Qq g) :
    W p l e R s m args below meth c H0 L0 0 0 (MQ below (zz_Qi D cl r w' A) args s mc ms A) g :=
  k _ (fun pc ls H locs hd hP hD hS => W.iret (v := r) hx hb hr (fun t ht hW => ⟨⟨r, (), rfl, rfl, by rw [ht]; exact hP, hD⟩, hS.F ht⟩) hS.2.2 hd)
theorem zz_cim {r : Int32} (hP : va_P D cl ws H) (hD : va_D A ws) (hS : va_S A s.heap H locs) (hA : ∀ q, s.heap.size ≤ q → A q) (isC isR perm : List Nat) (hC : isC.map (fun i => ws[i]?) = wc.map some) (hR : isR.map (fun i => ws[i]?) = (isR.filterMap (fun i => ws[i]?)).map some) (hn : va_nd isR = true) (hdis : ∀ i ∈ isR, i ∉ isC)
    (hp : perm.map (fun i => (isR.filterMap (fun i => ws[i]?) ++ w')[i]?) = ws'.map some) (hpn : va_nd perm = true) (hr : va_Run p l e R s m args below meth c H locs cells slots mc ms (F0 m pc ls st0) rest (zz_Qi D cl r w' (va_A wc H.size) a) (va_A wc H.size))
    (kk : ∀ (H1 : Heap) (locs1 : List Loc), va_P D cl ws' H1 → va_D A ws' → va_S A s.heap H1 locs1 → W p l e R s m args below meth c H1 locs1 (cells + mc) (slots + ms) Q (F0 m (pc + 3) ls (.int r :: rest))) : W p l e R s m args below meth c H locs cells slots Q (F0 m pc ls st0) := by
  have hF := va_free hD hS hA isC hC
  refine va_calli hr hS (fun q _ h => hF q h) hF (fun r0 u t H1 locs1 ht hvm hw hB hz1 hk1 hS1 => ?_)
  subst hw
  have hB1 : va_P D cl w' H1 := by rw [← ht]; exact hB.1
  obtain ⟨g1, g2⟩ := zz_back hP hD hS hA isC isR perm hC hR hn hdis hp hpn hk1 hB1 hB.2
  exact kk H1 locs1 g1 g2 hS1
/-- a call of a static method that has handlers -/
theorem xm_runSW {y : MethodName} {bytes cc : ByteArray} {maxL nL n index : Nat} {ret : Option FieldType} {hh : List (Nat × Nat × Nat × Nat)} {vs Ts : List Cond} {rm : Room} {Pc : Array Value → State → Prop} {Qc : Array Value → State → Outcome → State → Prop} {free : Addr → Prop} {own : String} {As : List Value} {g : JFrame}
    (S : CallFix p m c cc nL s args Ts own) (hM : Met l y vs rm Pc Qc mc ms free) (hrc : rm.cells = mc) (hrs : rm.slots = ms) (hfr : rm.frames + 1 ≤ R.frames) (hlo : 8 + (maxL + 11) + rm.locals ≤ R.locals) (hG : GoodIn Ts vs) (hcw : Cond.codeWith y bytes maxL ret hh ∈ vs)
    (hini : (Cond.initialized y.cls).before args s = true) (hst : (Cond.static y).before args s = true) (hl : (Cond.methodLink own index y).before args s = true) (hd : y.cls ≠ "java/lang/invoke/MethodHandle" ∧ y.cls ≠ "java/lang/invoke/VarHandle" ∧ (parseMethodDescriptor y.desc).map (fun d => d.parameters.length) = some n) (hp : PreS s H Pc As)
    (hg : g.method = m) (hn : As.length = n) (hsize : g.locals.size = nL) (hstack : g.stack = As.reverse ++ rest) (hW : 2 * g.monitorRoom + (rest.map fun v => v.category).sum ≤ 8) (hdg : decode cc g.pc = .ok (.invokestatic index, 3)) (hf : cells + mc ≤ R.cells ∧ slots + ms ≤ R.slots) :
    va_Run p l e R s m args below meth c H locs cells slots mc ms g rest (Qc As.toArray) free := by
  obtain ⟨hx, hb, hml, ho, hts⟩ := S
  have hws := pay_in hts hG
  have hK : Back l R p e below s args y 3 8 (PreOf R mc ms Pc) (PostOf Qc mc ms free) := va_backW hM hp.1 hrc hrs hfr hlo hws hcw (fun a' U hW => word_at hW (Or.inl (by first | rfl | simp [Cond.onTables, Cond.keeps, Cond.steady])) hini)
  intro T hT X
  obtain ⟨mk, methM, cM, hnamed, hmethM, hcM, -, -, -, -, -, hsigM⟩ := Cond.codeWith_spec (hts _ (hG _ hcw).1)
  have hstatic : methM.isStatic = true := Cond.static_spec hnamed hmethM hst
  obtain ⟨kP, hkP, -⟩ := className_of_methodNamed hnamed
  have hinitP : kP.init = .initialized := Cond.initialized_spec (findClass_of_methodNamed hnamed) hkP hini
  have hlen : As.length = methM.sig.parameters.length := by
    have h2 := hd.2.2
    rw [hsigM] at h2
    rw [hn]
    exact (Option.some.inj h2).symm
  obtain ⟨vm₁, X₁, hstep₁⟩ := X.invokestatic hx ho hl hnamed hmethM hstatic hkP hinitP ⟨hd.1, hd.2.1⟩ (g := g) hg (argsL := As) (rest := rest) hlen hstack (by rw [hb]; exact hdg)
  obtain ⟨v, ⟨U', l2, c2, s2⟩, X', ⟨g', mk', t, L, e1, e2, hq, h1, hL, h2, h3⟩, hsteps⟩ := hK m meth c ⟨T.setVm vm₁, locs, cells, slots⟩ { g with stack := rest } (.invokestatic index) mk As.toArray X₁ hg (hsize.trans hml.symm) (by rw [hb]; exact hdg) hW (X₁.named hnamed) ⟨hf.1, hf.2, hp.2 (T.setVm vm₁) hT X₁.warmed⟩
  dsimp only [Pt.U, Pt.locs, Pt.cells, Pt.slots] at X' e1 e2 h1 h2 h3 hsteps
  subst h1
  subst h2
  subst h3
  exact ⟨v, (T.setVm vm₁).calling g' mk' As.toArray, t, U', L, hT, X', hL, e1, e2, hq, fun target h => hstep₁ _ fun acts => by rw [doInvoke_state]; exact hsteps.trans h⟩
end Zh
theorem zg_W {n : Nat} {y : MethodName} {c : ByteArray} {r : Option FieldType} {hh : List (Nat × Nat × Nat × Nat)} (h5 : Cond.codeWith y c n r hh ∈ zw) : GoodIn zw (.codeWith y c n r hh :: zw) := by
  intro w hw
  have hm : w ∈ zw := by
    rcases List.mem_cons.mp hw with rfl | hw
    · exact h5
    · exact hw
  exact ⟨hm, zw_good w hm⟩
theorem zz_out0_5 {x : Int32} (h0 : ¬ x = 0) (h1 : ¬ x = 1) (h2 : ¬ x = 2) (h3 : ¬ x = 3) (h4 : ¬ x = 4) (h5 : ¬ x = 5) : x.toInt < 0 ∨ 5 < x.toInt := by
  have h := zz_out0_4 h0 h1 h2 h3 h4
  have e5 : x.toInt ≠ (5 : Int32).toInt := fun q => h5 (Int32.toInt_inj.mp q)
  have t5 : (5 : Int32).toInt = 5 := by decide
  rw [t5] at e5
  omega
abbrev ws_Law_text : List Cond := .codeWith y_Law_text method_3_code 5 (some .int) [(0, 9, 12, 13), (0, 9, 16, 15)] :: zw
abbrev rm_Law_text : Room := { frames := 7, cells := 1, slots := 6, locals := 114 }
theorem hd_Law_text : y_Law_text.cls ≠ "java/lang/invoke/MethodHandle" ∧ y_Law_text.cls ≠ "java/lang/invoke/VarHandle" ∧ (parseMethodDescriptor y_Law_text.desc).map (fun d => d.parameters.length) = some 3 := by decide +kernel
theorem d_Law_text_0 : decode method_3_code 0 = .ok (.aload_n 3, 1) := by decide +kernel
theorem d_Law_text_1 : decode method_3_code 1 = .ok (.iconst 0, 1) := by decide +kernel
theorem d_Law_text_2 : decode method_3_code 2 = .ok (.aload_n 0, 1) := by decide +kernel
theorem d_Law_text_3 : decode method_3_code 3 = .ok (.lload_n 1, 1) := by decide +kernel
theorem d_Law_text_4 : decode method_3_code 4 = .ok (.invokevirtual 7, 3) := by decide +kernel
theorem d_Law_text_7 : decode method_3_code 7 = .ok (.i2l, 1) := by decide +kernel
theorem d_Law_text_8 : decode method_3_code 8 = .ok (.lastore, 1) := by decide +kernel
theorem d_Law_text_9 : decode method_3_code 9 = .ok (.goto 11, 3) := by decide +kernel
theorem d_Law_text_12 : decode method_3_code 12 = .ok (.astore 4, 2) := by decide +kernel
theorem d_Law_text_14 : decode method_3_code 14 = .ok (.iconst 1, 1) := by decide +kernel
theorem d_Law_text_15 : decode method_3_code 15 = .ok (.ireturn, 1) := by decide +kernel
theorem d_Law_text_16 : decode method_3_code 16 = .ok (.astore 4, 2) := by decide +kernel
theorem d_Law_text_18 : decode method_3_code 18 = .ok (.iconst 2, 1) := by decide +kernel
theorem d_Law_text_19 : decode method_3_code 19 = .ok (.ireturn, 1) := by decide +kernel
theorem d_Law_text_20 : decode method_3_code 20 = .ok (.iconst 0, 1) := by decide +kernel
theorem d_Law_text_21 : decode method_3_code 21 = .ok (.ireturn, 1) := by decide +kernel
def f_Law_text (fu : Nat) (n_w0_theText_letters : Nat) (n_w2 : Nat) (x1 : Int64) (w0_theText_start : Int32) (w0_theText_end : Int32) (w0_theText_letters_a : Nat → Int32) (w2_a : Nat → Int64) : Option (Int32 × Int32 × (Nat → Int32) × (Nat → Int64)) :=
  (f_RT_text fu n_w0_theText_letters x1 w0_theText_start w0_theText_end w0_theText_letters_a).bind fun u_1 =>
  if u_1.1 = 0 then
  (if zz_in (0 : Int32) n_w2 = true then
  some (0, u_1.2.2.1, u_1.2.2.2, vp_updL w2_a (0 : Int32).toNatClampNeg ((u_1.2.1).toInt64))
  else none)
  else if u_1.1 = 1 then
  some (1, u_1.2.2.1, u_1.2.2.2, w2_a)
  else some (2, u_1.2.2.1, u_1.2.2.2, w2_a)
set_option maxHeartbeats 4000000 in
set_option maxRecDepth 100000 in
theorem c_Law_text (l : Launch) (htl : l.stackTraces = false) (dC : Nat → ClassId) (dI : Nat → Nat → Nat) (cI cC cB cJ : ClassId) (adF : Nat → Nat) (tp : Nat) (adK adV : Nat → Nat) (fu : Nat) (sz : Nat) (h_w0 : Nat) (h_w0_theText : Nat) (h_w0_theText_letters : Nat) (h_w2 : Nat) (h_w0_written : Nat) (h_w0_literal : Nat) (h_w0_quotient : Nat) (h_w0_shortest : Nat) (h_w0_decimal : Nat) (n_w0_theText_letters : Nat) (n_w2 : Nat) (x1 : Int64) (w0_readCount : Int32) (w0_noLiteralCount : Int32) (w0_outOfRangeCount : Int32) (w0_theText_start : Int32) (w0_theText_end : Int32) (w0_theText_letters_a : Nat → Int32) (w2_a : Nat → Int64) (u : Int32 × Int32 × (Nat → Int32) × (Nat → Int64)) (hf : f_Law_text fu n_w0_theText_letters n_w2 x1 w0_theText_start w0_theText_end w0_theText_letters_a w2_a = some u) : Met l y_Law_text ws_Law_text rm_Law_text (zz_P (zx_E adF tp adK adV) (dC, dI) vwCl (zz_tys cI cC cB cJ) [.ref h_w0, .long x1, .ref h_w2] [(h_w0, .inr (6, [.ref h_w0_theText, .ref h_w0_written, .ref h_w0_literal, .ref h_w0_quotient, .ref h_w0_shortest, .ref h_w0_decimal, .int w0_readCount, .int w0_noLiteralCount, .int w0_outOfRangeCount])), (h_w0_theText, .inr (4, [.ref h_w0_theText_letters, .int w0_theText_start, .int w0_theText_end])), (h_w0_theText_letters, .inl (cC, n_w0_theText_letters, .inl w0_theText_letters_a)), (h_w2, .inl (cJ, n_w2, .inr (.inl w2_a)))] sz) (zz_Qi (dC, dI) vwCl u.1 [(h_w0, .inr (6, [.ref h_w0_theText, .ref h_w0_written, .ref h_w0_literal, .ref h_w0_quotient, .ref h_w0_shortest, .ref h_w0_decimal, .int w0_readCount, .int w0_noLiteralCount, .int w0_outOfRangeCount])), (h_w0_theText, .inr (4, [.ref h_w0_theText_letters, .int w0_theText_start, .int u.2.1])), (h_w0_theText_letters, .inl (cC, n_w0_theText_letters, .inl u.2.2.1)), (h_w2, .inl (cJ, n_w2, .inr (.inl u.2.2.2)))] (va_A [(h_w0, .inr (6, [.ref h_w0_theText, .ref h_w0_written, .ref h_w0_literal, .ref h_w0_quotient, .ref h_w0_shortest, .ref h_w0_decimal, .int w0_readCount, .int w0_noLiteralCount, .int w0_outOfRangeCount])), (h_w0_theText, .inr (4, [.ref h_w0_theText_letters, .int w0_theText_start, .int w0_theText_end])), (h_w0_theText_letters, .inl (cC, n_w0_theText_letters, .inl w0_theText_letters_a)), (h_w2, .inl (cJ, n_w2, .inr (.inl w2_a)))] sz)) 1 6 (va_A [(h_w0, .inr (6, [.ref h_w0_theText, .ref h_w0_written, .ref h_w0_literal, .ref h_w0_quotient, .ref h_w0_shortest, .ref h_w0_decimal, .int w0_readCount, .int w0_noLiteralCount, .int w0_outOfRangeCount])), (h_w0_theText, .inr (4, [.ref h_w0_theText_letters, .int w0_theText_start, .int w0_theText_end])), (h_w0_theText_letters, .inl (cC, n_w0_theText_letters, .inl w0_theText_letters_a)), (h_w2, .inl (cJ, n_w2, .inr (.inl w2_a)))] sz) := by
  refine va_MetW (cc := method_3_code) (maxL := 5) (ret := (some .int)) (hh := [(0, 9, 12, 13), (0, 9, 16, 15)]) (by decide +kernel) rfl ?_
  intro p e s m args below meth c s₁ B hml hv
  obtain ⟨rfl, hsz, hP, hK, hD0, hX⟩ := hv
  have hx := B.exec
  have hb := B.bytes
  have hr := B.returns
  have hts := atoms_spec (ws := ws_Law_text) B.pre
  have hw : ∀ w ∈ zw, w.before [.ref h_w0, .long x1, .ref h_w2].toArray s = true := fun w h => hts w (List.mem_cons_of_mem _ h)
  have hown : s.vm.findClass R_Law = some m.cls := findClass_of_methodNamed B.named
  have hlocks := B.notSynchronized
  have htab := zt_tab2 (zt_tabOf B (hts _ List.mem_cons_self))
  subst hsz
  have hD := hD0.self (sz := s.heap.size)
  generalize hAe : va_A [(h_w0, .inr (6, [.ref h_w0_theText, .ref h_w0_written, .ref h_w0_literal, .ref h_w0_quotient, .ref h_w0_shortest, .ref h_w0_decimal, .int w0_readCount, .int w0_noLiteralCount, .int w0_outOfRangeCount])), (h_w0_theText, .inr (4, [.ref h_w0_theText_letters, .int w0_theText_start, .int w0_theText_end])), (h_w0_theText_letters, .inl (cC, n_w0_theText_letters, .inl w0_theText_letters_a)), (h_w2, .inl (cJ, n_w2, .inr (.inl w2_a)))] s.heap.size = A at hD hX ⊢
  have hA : ∀ q : Nat, s.heap.size ≤ q → A q := fun q h => by rw [← hAe]; exact Or.inr h
  have hS : va_S A s.heap s.heap [] := va_S.rf
  have hl := lv_entry [.ref h_w0, .long x1, .ref h_w2] (n := 5) (Nat.le_of_ble_eq_true rfl)
  rw [lg_entry_eq]
  generalize (lg_sl [.ref h_w0, .long x1, .ref h_w2] ++ List.replicate (5 - (lg_sl [.ref h_w0, .long x1, .ref h_w2]).length) Slot.unset).toArray = ls at hl ⊢
  have hl : lv_has ls 5 [(0, .ref h_w0), (1, .long x1), (3, .ref h_w2)] := hl
  refine zz_endim hx hb hr hlocks (fun Qq hend => ?_)
  unfold f_Law_text at hf
  obtain ⟨u_1, hu_1, hf⟩ := zz_bd hf
  refine lv_aload_n hx hb d_Law_text_0 rfl (lv_at hl 2 rfl) ?_
  refine lv_iconst (v := 0) hx hb d_Law_text_1 (by decide) ?_
  refine lv_aload_n hx hb d_Law_text_2 rfl (lv_at hl 0 rfl) ?_
  refine lv_lload_n hx hb d_Law_text_3 rfl (lv_at hl 1 rfl) ?_
  refine zx_call (nmf := zt_nis) (ws' := [(h_w0, .inr (6, [.ref h_w0_theText, .ref h_w0_written, .ref h_w0_literal, .ref h_w0_quotient, .ref h_w0_shortest, .ref h_w0_decimal, .int w0_readCount, .int w0_noLiteralCount, .int w0_outOfRangeCount])), (h_w0_theText, .inr (4, [.ref h_w0_theText_letters, .int w0_theText_start, .int u_1.2.2.1])), (h_w0_theText_letters, .inl (cC, n_w0_theText_letters, .inl u_1.2.2.2)), (h_w2, .inl (cJ, n_w2, .inr (.inl w2_a)))]) (wc := [(h_w0, .inr (6, [.ref h_w0_theText, .ref h_w0_written, .ref h_w0_literal, .ref h_w0_quotient, .ref h_w0_shortest, .ref h_w0_decimal, .int w0_readCount, .int w0_noLiteralCount, .int w0_outOfRangeCount])), (h_w0_theText, .inr (4, [.ref h_w0_theText_letters, .int w0_theText_start, .int w0_theText_end])), (h_w0_theText_letters, .inl (cC, n_w0_theText_letters, .inl w0_theText_letters_a))]) (w' := [(h_w0, .inr (6, [.ref h_w0_theText, .ref h_w0_written, .ref h_w0_literal, .ref h_w0_quotient, .ref h_w0_shortest, .ref h_w0_decimal, .int w0_readCount, .int w0_noLiteralCount, .int w0_outOfRangeCount])), (h_w0_theText, .inr (4, [.ref h_w0_theText_letters, .int w0_theText_start, .int u_1.2.2.1])), (h_w0_theText_letters, .inl (cC, n_w0_theText_letters, .inl u_1.2.2.2))]) hP hD hS hA [0, 1, 2] [3] [1, 2, 3, 0] rfl rfl (by decide) (by decide) rfl (by decide) (xm_runV (As := [.long x1]) (rest := [.int 0, .ref h_w2]) ⟨hx, hb, hml, hown, hw⟩ (c_RT_text l htl dC dI cI cC cB cJ adF tp adK adV fu _ h_w0 h_w0_theText h_w0_theText_letters h_w0_written h_w0_literal h_w0_quotient h_w0_shortest h_w0_decimal n_w0_theText_letters x1 w0_readCount w0_noLiteralCount w0_outOfRangeCount w0_theText_start w0_theText_end w0_theText_letters_a u_1 hu_1) (cwV 1 hw (zg_V wd_461 wd_462 wd_463 wd_1 wd_464) rfl rfl rfl hd_RT_text ⟨Nat.le_of_ble_eq_true rfl, Nat.le_of_ble_eq_true rfl⟩) (zz_preV (zx_ok adF tp adK adV) (va_recv (q0 := 0) (ci := 6) hK hP rfl rfl) hP hD hK hS hA hX [0, 1, 2] rfl (by decide)) rfl rfl hl.1 rfl (lv_room (Nat.le_of_ble_eq_true rfl)) d_Law_text_4 ⟨Nat.le_of_ble_eq_true rfl, Nat.le_of_ble_eq_true rfl⟩) (fun hc H locs hP hD hS => ?_) (fun hc x ce T locs hce hvm hfc hP hD hS X => ?_)
  · have hf := zz_ifp hc hf
    obtain ⟨hb_2, hf⟩ := zz_gd hf
    refine lv_i2l hx hb d_Law_text_7 rfl ?_
    refine va_last hx hb hK hP hD hS 3 3 rfl rfl (zz_vp hb_2) d_Law_text_8 (fun H locs hP hD hS => ?_)
    have hP : va_P (dC, dI) vwCl [(h_w0, .inr (6, [.ref h_w0_theText, .ref h_w0_written, .ref h_w0_literal, .ref h_w0_quotient, .ref h_w0_shortest, .ref h_w0_decimal, .int w0_readCount, .int w0_noLiteralCount, .int w0_outOfRangeCount])), (h_w0_theText, .inr (4, [.ref h_w0_theText_letters, .int w0_theText_start, .int u_1.2.2.1])), (h_w0_theText_letters, .inl (cC, n_w0_theText_letters, .inl u_1.2.2.2)), (h_w2, .inl (cJ, n_w2, .inr (.inl (vp_updL w2_a (0 : Int32).toNatClampNeg ((u_1.2.1).toInt64)))))] H := hP
    have hD : va_D A [(h_w0, .inr (6, [.ref h_w0_theText, .ref h_w0_written, .ref h_w0_literal, .ref h_w0_quotient, .ref h_w0_shortest, .ref h_w0_decimal, .int w0_readCount, .int w0_noLiteralCount, .int w0_outOfRangeCount])), (h_w0_theText, .inr (4, [.ref h_w0_theText_letters, .int w0_theText_start, .int u_1.2.2.1])), (h_w0_theText_letters, .inl (cC, n_w0_theText_letters, .inl u_1.2.2.2)), (h_w2, .inl (cJ, n_w2, .inr (.inl (vp_updL w2_a (0 : Int32).toNatClampNeg ((u_1.2.1).toInt64)))))] := hD
    refine lv_goto (tgt := 20) hx hb d_Law_text_9 (by decide) ?_
    refine lv_iconst (v := 0) hx hb d_Law_text_20 (by decide) ?_
    cases hf
    exact hend 21 ls _ _ d_Law_text_21 hP hD hS
  · have hf := zz_ifn hc hf
    by_cases hc1 : u_1.1 = 1
    · have hf := zz_ifp hc1 hf
      obtain ⟨vm2, X2, st2⟩ := xm_catch1 X x (g := F0 m 4 ls [.int 0, .ref h_w2]) rfl (own := "RealTextLaw") (name := zx_ia) (tn := zx_ia) hown htab rfl (by decide) (hw _ wd_459) hce hvm (by rw [← show zt_nis u_1.1 = zx_ia from if_pos hc1]; exact hfc) (va_Nw.use rfl hX.2.2.2.2.2.2.2.2.2.1)
      have hWh : W p l e (headSpec ws_Law_text rm_Law_text).room s m [.ref h_w0, .long x1, .ref h_w2].toArray below meth c (T.setVm vm2).heap locs (0 + 1) (0 + 6) Qq (F0 m 12 ls [.ref x]) := by
        refine lv_astore hx hb d_Law_text_12 hl (by decide) rfl (fun ls hl => ?_)
        refine lv_iconst (v := 1) hx hb d_Law_text_14 (by decide) ?_
        cases hf
        exact hend 15 ls _ _ d_Law_text_15 hP hD hS
      obtain ⟨t, a1, b1⟩ := hWh (T.setVm vm2) rfl X2
      exact ⟨t, st2 t a1, b1⟩
    · have hf := zz_ifn hc1 hf
      obtain ⟨vm2, X2, st2⟩ := xm_catch2 X x (g := F0 m 4 ls [.int 0, .ref h_w2]) rfl (own := "RealTextLaw") (name1 := zx_ia) (name := zx_is) (tn := zx_is) hown htab rfl (by decide) (hw _ wd_459) rfl (by decide) (hw _ wd_460) hce hvm (by rw [← show zt_nis u_1.1 = zx_is from if_neg hc1]; exact hfc) hX.2.2.2.2.2.2.2.2.2.2.2.2.1 (va_Nw.use rfl hX.2.2.2.2.2.2.2.2.2.2.1)
      have hWh : W p l e (headSpec ws_Law_text rm_Law_text).room s m [.ref h_w0, .long x1, .ref h_w2].toArray below meth c (T.setVm vm2).heap locs (0 + 1) (0 + 6) Qq (F0 m 16 ls [.ref x]) := by
        refine lv_astore hx hb d_Law_text_16 hl (by decide) rfl (fun ls hl => ?_)
        refine lv_iconst (v := 2) hx hb d_Law_text_18 (by decide) ?_
        cases hf
        exact hend 19 ls _ _ d_Law_text_19 hP hD hS
      obtain ⟨t, a1, b1⟩ := hWh (T.setVm vm2) rfl X2
      exact ⟨t, st2 t a1, b1⟩
abbrev ws_Law_read : List Cond := .codeWith y_Law_read method_4_code 4 (some .int) [(0, 8, 11, 13), (0, 8, 14, 21)] :: zw
abbrev rm_Law_read : Room := { frames := 7, cells := 1, slots := 6, locals := 162 }
theorem hd_Law_read : y_Law_read.cls ≠ "java/lang/invoke/MethodHandle" ∧ y_Law_read.cls ≠ "java/lang/invoke/VarHandle" ∧ (parseMethodDescriptor y_Law_read.desc).map (fun d => d.parameters.length) = some 3 := by decide +kernel
theorem d_Law_read_0 : decode method_4_code 0 = .ok (.aload_n 2, 1) := by decide +kernel
theorem d_Law_read_1 : decode method_4_code 1 = .ok (.iconst 0, 1) := by decide +kernel
theorem d_Law_read_2 : decode method_4_code 2 = .ok (.aload_n 0, 1) := by decide +kernel
theorem d_Law_read_3 : decode method_4_code 3 = .ok (.iload_n 1, 1) := by decide +kernel
theorem d_Law_read_4 : decode method_4_code 4 = .ok (.invokevirtual 17, 3) := by decide +kernel
theorem d_Law_read_7 : decode method_4_code 7 = .ok (.lastore, 1) := by decide +kernel
theorem d_Law_read_8 : decode method_4_code 8 = .ok (.goto 9, 3) := by decide +kernel
theorem d_Law_read_11 : decode method_4_code 11 = .ok (.astore_n 3, 1) := by decide +kernel
theorem d_Law_read_12 : decode method_4_code 12 = .ok (.iconst 1, 1) := by decide +kernel
theorem d_Law_read_13 : decode method_4_code 13 = .ok (.ireturn, 1) := by decide +kernel
theorem d_Law_read_14 : decode method_4_code 14 = .ok (.astore_n 3, 1) := by decide +kernel
theorem d_Law_read_15 : decode method_4_code 15 = .ok (.iconst 2, 1) := by decide +kernel
theorem d_Law_read_16 : decode method_4_code 16 = .ok (.ireturn, 1) := by decide +kernel
theorem d_Law_read_17 : decode method_4_code 17 = .ok (.iconst 0, 1) := by decide +kernel
theorem d_Law_read_18 : decode method_4_code 18 = .ok (.ireturn, 1) := by decide +kernel
def f_Law_read (fu : Nat) (n_w0_theText_letters : Nat) (n_w0_literal_digits : Nat) (n_w0_quotient_numerator_limbs : Nat) (n_w0_quotient_denominator_limbs : Nat) (n_w2 : Nat) (x1 : Int32) (w0_readCount : Int32) (w0_noLiteralCount : Int32) (w0_outOfRangeCount : Int32) (w0_theText_start : Int32) (w0_theText_end : Int32) (w0_theText_letters_a : Nat → Int32) (w0_literal_digitCount : Int32) (w0_literal_fraction : Int32) (w0_literal_exponent : Int32) (w0_literal_isHex : Int32) (w0_literal_digits_a : Nat → Int32) (w0_quotient_lead : Int64) (w0_quotient_power : Int32) (w0_quotient_more : Int32) (w0_quotient_numerator_size : Int32) (w0_quotient_numerator_limbs_a : Nat → Int32) (w0_quotient_denominator_size : Int32) (w0_quotient_denominator_limbs_a : Nat → Int32) (w2_a : Nat → Int64) : Option (Int32 × Int32 × Int32 × Int32 × Int32 × Int32 × Int32 × Int32 × Int32 × Int32 × (Nat → Int32) × Int64 × Int32 × Int32 × Int32 × (Nat → Int32) × Int32 × (Nat → Int32) × (Nat → Int64)) :=
  (f_RT_read fu n_w0_theText_letters n_w0_literal_digits n_w0_quotient_numerator_limbs n_w0_quotient_denominator_limbs x1 w0_readCount w0_noLiteralCount w0_outOfRangeCount w0_theText_start w0_theText_end w0_theText_letters_a w0_literal_digitCount w0_literal_fraction w0_literal_exponent w0_literal_isHex w0_literal_digits_a w0_quotient_lead w0_quotient_power w0_quotient_more w0_quotient_numerator_size w0_quotient_numerator_limbs_a w0_quotient_denominator_size w0_quotient_denominator_limbs_a).bind fun u_1 =>
  if u_1.1 = 0 then
  (if zz_in (0 : Int32) n_w2 = true then
  some (0, u_1.2.2.1, u_1.2.2.2.1, u_1.2.2.2.2.1, u_1.2.2.2.2.2.1, u_1.2.2.2.2.2.2.1, u_1.2.2.2.2.2.2.2.1, u_1.2.2.2.2.2.2.2.2.1, u_1.2.2.2.2.2.2.2.2.2.1, u_1.2.2.2.2.2.2.2.2.2.2.1, u_1.2.2.2.2.2.2.2.2.2.2.2.1, u_1.2.2.2.2.2.2.2.2.2.2.2.2.1, u_1.2.2.2.2.2.2.2.2.2.2.2.2.2.1, u_1.2.2.2.2.2.2.2.2.2.2.2.2.2.2.1, u_1.2.2.2.2.2.2.2.2.2.2.2.2.2.2.2.1, u_1.2.2.2.2.2.2.2.2.2.2.2.2.2.2.2.2.1, u_1.2.2.2.2.2.2.2.2.2.2.2.2.2.2.2.2.2.1, u_1.2.2.2.2.2.2.2.2.2.2.2.2.2.2.2.2.2.2, vp_updL w2_a (0 : Int32).toNatClampNeg u_1.2.1)
  else none)
  else if u_1.1 = 1 then
  some (1, u_1.2.2.1, u_1.2.2.2.1, u_1.2.2.2.2.1, u_1.2.2.2.2.2.1, u_1.2.2.2.2.2.2.1, u_1.2.2.2.2.2.2.2.1, u_1.2.2.2.2.2.2.2.2.1, u_1.2.2.2.2.2.2.2.2.2.1, u_1.2.2.2.2.2.2.2.2.2.2.1, u_1.2.2.2.2.2.2.2.2.2.2.2.1, u_1.2.2.2.2.2.2.2.2.2.2.2.2.1, u_1.2.2.2.2.2.2.2.2.2.2.2.2.2.1, u_1.2.2.2.2.2.2.2.2.2.2.2.2.2.2.1, u_1.2.2.2.2.2.2.2.2.2.2.2.2.2.2.2.1, u_1.2.2.2.2.2.2.2.2.2.2.2.2.2.2.2.2.1, u_1.2.2.2.2.2.2.2.2.2.2.2.2.2.2.2.2.2.1, u_1.2.2.2.2.2.2.2.2.2.2.2.2.2.2.2.2.2.2, w2_a)
  else some (2, u_1.2.2.1, u_1.2.2.2.1, u_1.2.2.2.2.1, u_1.2.2.2.2.2.1, u_1.2.2.2.2.2.2.1, u_1.2.2.2.2.2.2.2.1, u_1.2.2.2.2.2.2.2.2.1, u_1.2.2.2.2.2.2.2.2.2.1, u_1.2.2.2.2.2.2.2.2.2.2.1, u_1.2.2.2.2.2.2.2.2.2.2.2.1, u_1.2.2.2.2.2.2.2.2.2.2.2.2.1, u_1.2.2.2.2.2.2.2.2.2.2.2.2.2.1, u_1.2.2.2.2.2.2.2.2.2.2.2.2.2.2.1, u_1.2.2.2.2.2.2.2.2.2.2.2.2.2.2.2.1, u_1.2.2.2.2.2.2.2.2.2.2.2.2.2.2.2.2.1, u_1.2.2.2.2.2.2.2.2.2.2.2.2.2.2.2.2.2.1, u_1.2.2.2.2.2.2.2.2.2.2.2.2.2.2.2.2.2.2, w2_a)
set_option maxHeartbeats 4000000 in
set_option maxRecDepth 100000 in
theorem c_Law_read (l : Launch) (htl : l.stackTraces = false) (dC : Nat → ClassId) (dI : Nat → Nat → Nat) (cI cC cB cJ : ClassId) (adF : Nat → Nat) (tp : Nat) (adK adV : Nat → Nat) (fu : Nat) (sz : Nat) (h_w0 : Nat) (h_w0_theText : Nat) (h_w0_theText_letters : Nat) (h_w0_literal : Nat) (h_w0_literal_digits : Nat) (h_w0_quotient : Nat) (h_w0_quotient_numerator : Nat) (h_w0_quotient_numerator_limbs : Nat) (h_w0_quotient_denominator : Nat) (h_w0_quotient_denominator_limbs : Nat) (h_w2 : Nat) (h_w0_written : Nat) (h_w0_shortest : Nat) (h_w0_decimal : Nat) (n_w0_theText_letters : Nat) (n_w0_literal_digits : Nat) (n_w0_quotient_numerator_limbs : Nat) (n_w0_quotient_denominator_limbs : Nat) (n_w2 : Nat) (x1 : Int32) (w0_readCount : Int32) (w0_noLiteralCount : Int32) (w0_outOfRangeCount : Int32) (w0_theText_start : Int32) (w0_theText_end : Int32) (w0_theText_letters_a : Nat → Int32) (w0_literal_digitCount : Int32) (w0_literal_fraction : Int32) (w0_literal_exponent : Int32) (w0_literal_isHex : Int32) (w0_literal_digits_a : Nat → Int32) (w0_quotient_lead : Int64) (w0_quotient_power : Int32) (w0_quotient_more : Int32) (w0_quotient_numerator_size : Int32) (w0_quotient_numerator_limbs_a : Nat → Int32) (w0_quotient_denominator_size : Int32) (w0_quotient_denominator_limbs_a : Nat → Int32) (w2_a : Nat → Int64) (u : Int32 × Int32 × Int32 × Int32 × Int32 × Int32 × Int32 × Int32 × Int32 × Int32 × (Nat → Int32) × Int64 × Int32 × Int32 × Int32 × (Nat → Int32) × Int32 × (Nat → Int32) × (Nat → Int64)) (hf : f_Law_read fu n_w0_theText_letters n_w0_literal_digits n_w0_quotient_numerator_limbs n_w0_quotient_denominator_limbs n_w2 x1 w0_readCount w0_noLiteralCount w0_outOfRangeCount w0_theText_start w0_theText_end w0_theText_letters_a w0_literal_digitCount w0_literal_fraction w0_literal_exponent w0_literal_isHex w0_literal_digits_a w0_quotient_lead w0_quotient_power w0_quotient_more w0_quotient_numerator_size w0_quotient_numerator_limbs_a w0_quotient_denominator_size w0_quotient_denominator_limbs_a w2_a = some u) : Met l y_Law_read ws_Law_read rm_Law_read (zz_P (zx_E adF tp adK adV) (dC, dI) vwCl (zz_tys cI cC cB cJ) [.ref h_w0, .int x1, .ref h_w2] [(h_w0, .inr (6, [.ref h_w0_theText, .ref h_w0_written, .ref h_w0_literal, .ref h_w0_quotient, .ref h_w0_shortest, .ref h_w0_decimal, .int w0_readCount, .int w0_noLiteralCount, .int w0_outOfRangeCount])), (h_w0_theText, .inr (4, [.ref h_w0_theText_letters, .int w0_theText_start, .int w0_theText_end])), (h_w0_theText_letters, .inl (cC, n_w0_theText_letters, .inl w0_theText_letters_a)), (h_w0_literal, .inr (2, [.ref h_w0_literal_digits, .int w0_literal_digitCount, .int w0_literal_fraction, .int w0_literal_exponent, .int w0_literal_isHex])), (h_w0_literal_digits, .inl (cB, n_w0_literal_digits, .inl w0_literal_digits_a)), (h_w0_quotient, .inr (3, [.ref h_w0_quotient_numerator, .ref h_w0_quotient_denominator, .long w0_quotient_lead, .int w0_quotient_power, .int w0_quotient_more])), (h_w0_quotient_numerator, .inr (0, [.ref h_w0_quotient_numerator_limbs, .int w0_quotient_numerator_size])), (h_w0_quotient_numerator_limbs, .inl (cI, n_w0_quotient_numerator_limbs, .inl w0_quotient_numerator_limbs_a)), (h_w0_quotient_denominator, .inr (0, [.ref h_w0_quotient_denominator_limbs, .int w0_quotient_denominator_size])), (h_w0_quotient_denominator_limbs, .inl (cI, n_w0_quotient_denominator_limbs, .inl w0_quotient_denominator_limbs_a)), (h_w2, .inl (cJ, n_w2, .inr (.inl w2_a)))] sz) (zz_Qi (dC, dI) vwCl u.1 [(h_w0, .inr (6, [.ref h_w0_theText, .ref h_w0_written, .ref h_w0_literal, .ref h_w0_quotient, .ref h_w0_shortest, .ref h_w0_decimal, .int u.2.1, .int u.2.2.1, .int u.2.2.2.1])), (h_w0_theText, .inr (4, [.ref h_w0_theText_letters, .int u.2.2.2.2.1, .int u.2.2.2.2.2.1])), (h_w0_theText_letters, .inl (cC, n_w0_theText_letters, .inl w0_theText_letters_a)), (h_w0_literal, .inr (2, [.ref h_w0_literal_digits, .int u.2.2.2.2.2.2.1, .int u.2.2.2.2.2.2.2.1, .int u.2.2.2.2.2.2.2.2.1, .int u.2.2.2.2.2.2.2.2.2.1])), (h_w0_literal_digits, .inl (cB, n_w0_literal_digits, .inl u.2.2.2.2.2.2.2.2.2.2.1)), (h_w0_quotient, .inr (3, [.ref h_w0_quotient_numerator, .ref h_w0_quotient_denominator, .long u.2.2.2.2.2.2.2.2.2.2.2.1, .int u.2.2.2.2.2.2.2.2.2.2.2.2.1, .int u.2.2.2.2.2.2.2.2.2.2.2.2.2.1])), (h_w0_quotient_numerator, .inr (0, [.ref h_w0_quotient_numerator_limbs, .int u.2.2.2.2.2.2.2.2.2.2.2.2.2.2.1])), (h_w0_quotient_numerator_limbs, .inl (cI, n_w0_quotient_numerator_limbs, .inl u.2.2.2.2.2.2.2.2.2.2.2.2.2.2.2.1)), (h_w0_quotient_denominator, .inr (0, [.ref h_w0_quotient_denominator_limbs, .int u.2.2.2.2.2.2.2.2.2.2.2.2.2.2.2.2.1])), (h_w0_quotient_denominator_limbs, .inl (cI, n_w0_quotient_denominator_limbs, .inl u.2.2.2.2.2.2.2.2.2.2.2.2.2.2.2.2.2.1)), (h_w2, .inl (cJ, n_w2, .inr (.inl u.2.2.2.2.2.2.2.2.2.2.2.2.2.2.2.2.2.2)))] (va_A [(h_w0, .inr (6, [.ref h_w0_theText, .ref h_w0_written, .ref h_w0_literal, .ref h_w0_quotient, .ref h_w0_shortest, .ref h_w0_decimal, .int w0_readCount, .int w0_noLiteralCount, .int w0_outOfRangeCount])), (h_w0_theText, .inr (4, [.ref h_w0_theText_letters, .int w0_theText_start, .int w0_theText_end])), (h_w0_theText_letters, .inl (cC, n_w0_theText_letters, .inl w0_theText_letters_a)), (h_w0_literal, .inr (2, [.ref h_w0_literal_digits, .int w0_literal_digitCount, .int w0_literal_fraction, .int w0_literal_exponent, .int w0_literal_isHex])), (h_w0_literal_digits, .inl (cB, n_w0_literal_digits, .inl w0_literal_digits_a)), (h_w0_quotient, .inr (3, [.ref h_w0_quotient_numerator, .ref h_w0_quotient_denominator, .long w0_quotient_lead, .int w0_quotient_power, .int w0_quotient_more])), (h_w0_quotient_numerator, .inr (0, [.ref h_w0_quotient_numerator_limbs, .int w0_quotient_numerator_size])), (h_w0_quotient_numerator_limbs, .inl (cI, n_w0_quotient_numerator_limbs, .inl w0_quotient_numerator_limbs_a)), (h_w0_quotient_denominator, .inr (0, [.ref h_w0_quotient_denominator_limbs, .int w0_quotient_denominator_size])), (h_w0_quotient_denominator_limbs, .inl (cI, n_w0_quotient_denominator_limbs, .inl w0_quotient_denominator_limbs_a)), (h_w2, .inl (cJ, n_w2, .inr (.inl w2_a)))] sz)) 1 6 (va_A [(h_w0, .inr (6, [.ref h_w0_theText, .ref h_w0_written, .ref h_w0_literal, .ref h_w0_quotient, .ref h_w0_shortest, .ref h_w0_decimal, .int w0_readCount, .int w0_noLiteralCount, .int w0_outOfRangeCount])), (h_w0_theText, .inr (4, [.ref h_w0_theText_letters, .int w0_theText_start, .int w0_theText_end])), (h_w0_theText_letters, .inl (cC, n_w0_theText_letters, .inl w0_theText_letters_a)), (h_w0_literal, .inr (2, [.ref h_w0_literal_digits, .int w0_literal_digitCount, .int w0_literal_fraction, .int w0_literal_exponent, .int w0_literal_isHex])), (h_w0_literal_digits, .inl (cB, n_w0_literal_digits, .inl w0_literal_digits_a)), (h_w0_quotient, .inr (3, [.ref h_w0_quotient_numerator, .ref h_w0_quotient_denominator, .long w0_quotient_lead, .int w0_quotient_power, .int w0_quotient_more])), (h_w0_quotient_numerator, .inr (0, [.ref h_w0_quotient_numerator_limbs, .int w0_quotient_numerator_size])), (h_w0_quotient_numerator_limbs, .inl (cI, n_w0_quotient_numerator_limbs, .inl w0_quotient_numerator_limbs_a)), (h_w0_quotient_denominator, .inr (0, [.ref h_w0_quotient_denominator_limbs, .int w0_quotient_denominator_size])), (h_w0_quotient_denominator_limbs, .inl (cI, n_w0_quotient_denominator_limbs, .inl w0_quotient_denominator_limbs_a)), (h_w2, .inl (cJ, n_w2, .inr (.inl w2_a)))] sz) := by
  refine va_MetW (cc := method_4_code) (maxL := 4) (ret := (some .int)) (hh := [(0, 8, 11, 13), (0, 8, 14, 21)]) (by decide +kernel) rfl ?_
  intro p e s m args below meth c s₁ B hml hv
  obtain ⟨rfl, hsz, hP, hK, hD0, hX⟩ := hv
  have hx := B.exec
  have hb := B.bytes
  have hr := B.returns
  have hts := atoms_spec (ws := ws_Law_read) B.pre
  have hw : ∀ w ∈ zw, w.before [.ref h_w0, .int x1, .ref h_w2].toArray s = true := fun w h => hts w (List.mem_cons_of_mem _ h)
  have hown : s.vm.findClass R_Law = some m.cls := findClass_of_methodNamed B.named
  have hlocks := B.notSynchronized
  have htab := zt_tab2 (zt_tabOf B (hts _ List.mem_cons_self))
  subst hsz
  have hD := hD0.self (sz := s.heap.size)
  generalize hAe : va_A [(h_w0, .inr (6, [.ref h_w0_theText, .ref h_w0_written, .ref h_w0_literal, .ref h_w0_quotient, .ref h_w0_shortest, .ref h_w0_decimal, .int w0_readCount, .int w0_noLiteralCount, .int w0_outOfRangeCount])), (h_w0_theText, .inr (4, [.ref h_w0_theText_letters, .int w0_theText_start, .int w0_theText_end])), (h_w0_theText_letters, .inl (cC, n_w0_theText_letters, .inl w0_theText_letters_a)), (h_w0_literal, .inr (2, [.ref h_w0_literal_digits, .int w0_literal_digitCount, .int w0_literal_fraction, .int w0_literal_exponent, .int w0_literal_isHex])), (h_w0_literal_digits, .inl (cB, n_w0_literal_digits, .inl w0_literal_digits_a)), (h_w0_quotient, .inr (3, [.ref h_w0_quotient_numerator, .ref h_w0_quotient_denominator, .long w0_quotient_lead, .int w0_quotient_power, .int w0_quotient_more])), (h_w0_quotient_numerator, .inr (0, [.ref h_w0_quotient_numerator_limbs, .int w0_quotient_numerator_size])), (h_w0_quotient_numerator_limbs, .inl (cI, n_w0_quotient_numerator_limbs, .inl w0_quotient_numerator_limbs_a)), (h_w0_quotient_denominator, .inr (0, [.ref h_w0_quotient_denominator_limbs, .int w0_quotient_denominator_size])), (h_w0_quotient_denominator_limbs, .inl (cI, n_w0_quotient_denominator_limbs, .inl w0_quotient_denominator_limbs_a)), (h_w2, .inl (cJ, n_w2, .inr (.inl w2_a)))] s.heap.size = A at hD hX ⊢
  have hA : ∀ q : Nat, s.heap.size ≤ q → A q := fun q h => by rw [← hAe]; exact Or.inr h
  have hS : va_S A s.heap s.heap [] := va_S.rf
  have hl := lv_entry [.ref h_w0, .int x1, .ref h_w2] (n := 4) (Nat.le_of_ble_eq_true rfl)
  rw [lg_entry_eq]
  generalize (lg_sl [.ref h_w0, .int x1, .ref h_w2] ++ List.replicate (4 - (lg_sl [.ref h_w0, .int x1, .ref h_w2]).length) Slot.unset).toArray = ls at hl ⊢
  have hl : lv_has ls 4 [(0, .ref h_w0), (1, .int x1), (2, .ref h_w2)] := hl
  refine zz_endim hx hb hr hlocks (fun Qq hend => ?_)
  unfold f_Law_read at hf
  obtain ⟨u_1, hu_1, hf⟩ := zz_bd hf
  refine lv_aload_n hx hb d_Law_read_0 rfl (lv_at hl 2 rfl) ?_
  refine lv_iconst (v := 0) hx hb d_Law_read_1 (by decide) ?_
  refine lv_aload_n hx hb d_Law_read_2 rfl (lv_at hl 0 rfl) ?_
  refine lv_iload_n hx hb d_Law_read_3 rfl (lv_at hl 1 rfl) ?_
  refine zx_call (nmf := zt_nar) (ws' := [(h_w0, .inr (6, [.ref h_w0_theText, .ref h_w0_written, .ref h_w0_literal, .ref h_w0_quotient, .ref h_w0_shortest, .ref h_w0_decimal, .int u_1.2.2.1, .int u_1.2.2.2.1, .int u_1.2.2.2.2.1])), (h_w0_theText, .inr (4, [.ref h_w0_theText_letters, .int u_1.2.2.2.2.2.1, .int u_1.2.2.2.2.2.2.1])), (h_w0_theText_letters, .inl (cC, n_w0_theText_letters, .inl w0_theText_letters_a)), (h_w0_literal, .inr (2, [.ref h_w0_literal_digits, .int u_1.2.2.2.2.2.2.2.1, .int u_1.2.2.2.2.2.2.2.2.1, .int u_1.2.2.2.2.2.2.2.2.2.1, .int u_1.2.2.2.2.2.2.2.2.2.2.1])), (h_w0_literal_digits, .inl (cB, n_w0_literal_digits, .inl u_1.2.2.2.2.2.2.2.2.2.2.2.1)), (h_w0_quotient, .inr (3, [.ref h_w0_quotient_numerator, .ref h_w0_quotient_denominator, .long u_1.2.2.2.2.2.2.2.2.2.2.2.2.1, .int u_1.2.2.2.2.2.2.2.2.2.2.2.2.2.1, .int u_1.2.2.2.2.2.2.2.2.2.2.2.2.2.2.1])), (h_w0_quotient_numerator, .inr (0, [.ref h_w0_quotient_numerator_limbs, .int u_1.2.2.2.2.2.2.2.2.2.2.2.2.2.2.2.1])), (h_w0_quotient_numerator_limbs, .inl (cI, n_w0_quotient_numerator_limbs, .inl u_1.2.2.2.2.2.2.2.2.2.2.2.2.2.2.2.2.1)), (h_w0_quotient_denominator, .inr (0, [.ref h_w0_quotient_denominator_limbs, .int u_1.2.2.2.2.2.2.2.2.2.2.2.2.2.2.2.2.2.1])), (h_w0_quotient_denominator_limbs, .inl (cI, n_w0_quotient_denominator_limbs, .inl u_1.2.2.2.2.2.2.2.2.2.2.2.2.2.2.2.2.2.2)), (h_w2, .inl (cJ, n_w2, .inr (.inl w2_a)))]) (wc := [(h_w0, .inr (6, [.ref h_w0_theText, .ref h_w0_written, .ref h_w0_literal, .ref h_w0_quotient, .ref h_w0_shortest, .ref h_w0_decimal, .int w0_readCount, .int w0_noLiteralCount, .int w0_outOfRangeCount])), (h_w0_theText, .inr (4, [.ref h_w0_theText_letters, .int w0_theText_start, .int w0_theText_end])), (h_w0_theText_letters, .inl (cC, n_w0_theText_letters, .inl w0_theText_letters_a)), (h_w0_literal, .inr (2, [.ref h_w0_literal_digits, .int w0_literal_digitCount, .int w0_literal_fraction, .int w0_literal_exponent, .int w0_literal_isHex])), (h_w0_literal_digits, .inl (cB, n_w0_literal_digits, .inl w0_literal_digits_a)), (h_w0_quotient, .inr (3, [.ref h_w0_quotient_numerator, .ref h_w0_quotient_denominator, .long w0_quotient_lead, .int w0_quotient_power, .int w0_quotient_more])), (h_w0_quotient_numerator, .inr (0, [.ref h_w0_quotient_numerator_limbs, .int w0_quotient_numerator_size])), (h_w0_quotient_numerator_limbs, .inl (cI, n_w0_quotient_numerator_limbs, .inl w0_quotient_numerator_limbs_a)), (h_w0_quotient_denominator, .inr (0, [.ref h_w0_quotient_denominator_limbs, .int w0_quotient_denominator_size])), (h_w0_quotient_denominator_limbs, .inl (cI, n_w0_quotient_denominator_limbs, .inl w0_quotient_denominator_limbs_a))]) (w' := [(h_w0, .inr (6, [.ref h_w0_theText, .ref h_w0_written, .ref h_w0_literal, .ref h_w0_quotient, .ref h_w0_shortest, .ref h_w0_decimal, .int u_1.2.2.1, .int u_1.2.2.2.1, .int u_1.2.2.2.2.1])), (h_w0_theText, .inr (4, [.ref h_w0_theText_letters, .int u_1.2.2.2.2.2.1, .int u_1.2.2.2.2.2.2.1])), (h_w0_theText_letters, .inl (cC, n_w0_theText_letters, .inl w0_theText_letters_a)), (h_w0_literal, .inr (2, [.ref h_w0_literal_digits, .int u_1.2.2.2.2.2.2.2.1, .int u_1.2.2.2.2.2.2.2.2.1, .int u_1.2.2.2.2.2.2.2.2.2.1, .int u_1.2.2.2.2.2.2.2.2.2.2.1])), (h_w0_literal_digits, .inl (cB, n_w0_literal_digits, .inl u_1.2.2.2.2.2.2.2.2.2.2.2.1)), (h_w0_quotient, .inr (3, [.ref h_w0_quotient_numerator, .ref h_w0_quotient_denominator, .long u_1.2.2.2.2.2.2.2.2.2.2.2.2.1, .int u_1.2.2.2.2.2.2.2.2.2.2.2.2.2.1, .int u_1.2.2.2.2.2.2.2.2.2.2.2.2.2.2.1])), (h_w0_quotient_numerator, .inr (0, [.ref h_w0_quotient_numerator_limbs, .int u_1.2.2.2.2.2.2.2.2.2.2.2.2.2.2.2.1])), (h_w0_quotient_numerator_limbs, .inl (cI, n_w0_quotient_numerator_limbs, .inl u_1.2.2.2.2.2.2.2.2.2.2.2.2.2.2.2.2.1)), (h_w0_quotient_denominator, .inr (0, [.ref h_w0_quotient_denominator_limbs, .int u_1.2.2.2.2.2.2.2.2.2.2.2.2.2.2.2.2.2.1])), (h_w0_quotient_denominator_limbs, .inl (cI, n_w0_quotient_denominator_limbs, .inl u_1.2.2.2.2.2.2.2.2.2.2.2.2.2.2.2.2.2.2))]) hP hD hS hA [0, 1, 2, 3, 4, 5, 6, 7, 8, 9] [10] [1, 2, 3, 4, 5, 6, 7, 8, 9, 10, 0] rfl rfl (by decide) (by decide) rfl (by decide) (xm_runV (As := [.int x1]) (rest := [.int 0, .ref h_w2]) ⟨hx, hb, hml, hown, hw⟩ (c_RT_read l htl dC dI cI cC cB cJ adF tp adK adV fu _ h_w0 h_w0_theText h_w0_theText_letters h_w0_literal h_w0_literal_digits h_w0_quotient h_w0_quotient_numerator h_w0_quotient_numerator_limbs h_w0_quotient_denominator h_w0_quotient_denominator_limbs h_w0_written h_w0_shortest h_w0_decimal n_w0_theText_letters n_w0_literal_digits n_w0_quotient_numerator_limbs n_w0_quotient_denominator_limbs x1 w0_readCount w0_noLiteralCount w0_outOfRangeCount w0_theText_start w0_theText_end w0_theText_letters_a w0_literal_digitCount w0_literal_fraction w0_literal_exponent w0_literal_isHex w0_literal_digits_a w0_quotient_lead w0_quotient_power w0_quotient_more w0_quotient_numerator_size w0_quotient_numerator_limbs_a w0_quotient_denominator_size w0_quotient_denominator_limbs_a u_1 hu_1) (cwV 1 hw (zg_V wd_556 wd_557 wd_558 wd_1 wd_559) rfl rfl rfl hd_RT_read ⟨Nat.le_of_ble_eq_true rfl, Nat.le_of_ble_eq_true rfl⟩) (zz_preV (zx_ok adF tp adK adV) (va_recv (q0 := 0) (ci := 6) hK hP rfl rfl) hP hD hK hS hA hX [0, 1, 2, 3, 4, 5, 6, 7, 8, 9] rfl (by decide)) rfl rfl hl.1 rfl (lv_room (Nat.le_of_ble_eq_true rfl)) d_Law_read_4 ⟨Nat.le_of_ble_eq_true rfl, Nat.le_of_ble_eq_true rfl⟩) (fun hc H locs hP hD hS => ?_) (fun hc x ce T locs hce hvm hfc hP hD hS X => ?_)
  · have hf := zz_ifp hc hf
    obtain ⟨hb_2, hf⟩ := zz_gd hf
    refine va_last hx hb hK hP hD hS 10 3 rfl rfl (zz_vp hb_2) d_Law_read_7 (fun H locs hP hD hS => ?_)
    have hP : va_P (dC, dI) vwCl [(h_w0, .inr (6, [.ref h_w0_theText, .ref h_w0_written, .ref h_w0_literal, .ref h_w0_quotient, .ref h_w0_shortest, .ref h_w0_decimal, .int u_1.2.2.1, .int u_1.2.2.2.1, .int u_1.2.2.2.2.1])), (h_w0_theText, .inr (4, [.ref h_w0_theText_letters, .int u_1.2.2.2.2.2.1, .int u_1.2.2.2.2.2.2.1])), (h_w0_theText_letters, .inl (cC, n_w0_theText_letters, .inl w0_theText_letters_a)), (h_w0_literal, .inr (2, [.ref h_w0_literal_digits, .int u_1.2.2.2.2.2.2.2.1, .int u_1.2.2.2.2.2.2.2.2.1, .int u_1.2.2.2.2.2.2.2.2.2.1, .int u_1.2.2.2.2.2.2.2.2.2.2.1])), (h_w0_literal_digits, .inl (cB, n_w0_literal_digits, .inl u_1.2.2.2.2.2.2.2.2.2.2.2.1)), (h_w0_quotient, .inr (3, [.ref h_w0_quotient_numerator, .ref h_w0_quotient_denominator, .long u_1.2.2.2.2.2.2.2.2.2.2.2.2.1, .int u_1.2.2.2.2.2.2.2.2.2.2.2.2.2.1, .int u_1.2.2.2.2.2.2.2.2.2.2.2.2.2.2.1])), (h_w0_quotient_numerator, .inr (0, [.ref h_w0_quotient_numerator_limbs, .int u_1.2.2.2.2.2.2.2.2.2.2.2.2.2.2.2.1])), (h_w0_quotient_numerator_limbs, .inl (cI, n_w0_quotient_numerator_limbs, .inl u_1.2.2.2.2.2.2.2.2.2.2.2.2.2.2.2.2.1)), (h_w0_quotient_denominator, .inr (0, [.ref h_w0_quotient_denominator_limbs, .int u_1.2.2.2.2.2.2.2.2.2.2.2.2.2.2.2.2.2.1])), (h_w0_quotient_denominator_limbs, .inl (cI, n_w0_quotient_denominator_limbs, .inl u_1.2.2.2.2.2.2.2.2.2.2.2.2.2.2.2.2.2.2)), (h_w2, .inl (cJ, n_w2, .inr (.inl (vp_updL w2_a (0 : Int32).toNatClampNeg u_1.2.1))))] H := hP
    have hD : va_D A [(h_w0, .inr (6, [.ref h_w0_theText, .ref h_w0_written, .ref h_w0_literal, .ref h_w0_quotient, .ref h_w0_shortest, .ref h_w0_decimal, .int u_1.2.2.1, .int u_1.2.2.2.1, .int u_1.2.2.2.2.1])), (h_w0_theText, .inr (4, [.ref h_w0_theText_letters, .int u_1.2.2.2.2.2.1, .int u_1.2.2.2.2.2.2.1])), (h_w0_theText_letters, .inl (cC, n_w0_theText_letters, .inl w0_theText_letters_a)), (h_w0_literal, .inr (2, [.ref h_w0_literal_digits, .int u_1.2.2.2.2.2.2.2.1, .int u_1.2.2.2.2.2.2.2.2.1, .int u_1.2.2.2.2.2.2.2.2.2.1, .int u_1.2.2.2.2.2.2.2.2.2.2.1])), (h_w0_literal_digits, .inl (cB, n_w0_literal_digits, .inl u_1.2.2.2.2.2.2.2.2.2.2.2.1)), (h_w0_quotient, .inr (3, [.ref h_w0_quotient_numerator, .ref h_w0_quotient_denominator, .long u_1.2.2.2.2.2.2.2.2.2.2.2.2.1, .int u_1.2.2.2.2.2.2.2.2.2.2.2.2.2.1, .int u_1.2.2.2.2.2.2.2.2.2.2.2.2.2.2.1])), (h_w0_quotient_numerator, .inr (0, [.ref h_w0_quotient_numerator_limbs, .int u_1.2.2.2.2.2.2.2.2.2.2.2.2.2.2.2.1])), (h_w0_quotient_numerator_limbs, .inl (cI, n_w0_quotient_numerator_limbs, .inl u_1.2.2.2.2.2.2.2.2.2.2.2.2.2.2.2.2.1)), (h_w0_quotient_denominator, .inr (0, [.ref h_w0_quotient_denominator_limbs, .int u_1.2.2.2.2.2.2.2.2.2.2.2.2.2.2.2.2.2.1])), (h_w0_quotient_denominator_limbs, .inl (cI, n_w0_quotient_denominator_limbs, .inl u_1.2.2.2.2.2.2.2.2.2.2.2.2.2.2.2.2.2.2)), (h_w2, .inl (cJ, n_w2, .inr (.inl (vp_updL w2_a (0 : Int32).toNatClampNeg u_1.2.1))))] := hD
    refine lv_goto (tgt := 17) hx hb d_Law_read_8 (by decide) ?_
    refine lv_iconst (v := 0) hx hb d_Law_read_17 (by decide) ?_
    cases hf
    exact hend 18 ls _ _ d_Law_read_18 hP hD hS
  · have hf := zz_ifn hc hf
    by_cases hc1 : u_1.1 = 1
    · have hf := zz_ifp hc1 hf
      obtain ⟨vm2, X2, st2⟩ := xm_catch1 X x (g := F0 m 4 ls [.int 0, .ref h_w2]) rfl (own := "RealTextLaw") (name := zx_ia) (tn := zx_ia) hown htab rfl (by decide) (hw _ wd_459) hce hvm (by rw [← show zt_nar u_1.1 = zx_ia from if_pos hc1]; exact hfc) (va_Nw.use rfl hX.2.2.2.2.2.2.2.2.2.1)
      have hWh : W p l e (headSpec ws_Law_read rm_Law_read).room s m [.ref h_w0, .int x1, .ref h_w2].toArray below meth c (T.setVm vm2).heap locs (0 + 1) (0 + 6) Qq (F0 m 11 ls [.ref x]) := by
        refine lv_astore_n hx hb d_Law_read_11 rfl hl (by decide) rfl (fun ls hl => ?_)
        refine lv_iconst (v := 1) hx hb d_Law_read_12 (by decide) ?_
        cases hf
        exact hend 13 ls _ _ d_Law_read_13 hP hD hS
      obtain ⟨t, a1, b1⟩ := hWh (T.setVm vm2) rfl X2
      exact ⟨t, st2 t a1, b1⟩
    · have hf := zz_ifn hc1 hf
      obtain ⟨vm2, X2, st2⟩ := xm_catch2 X x (g := F0 m 4 ls [.int 0, .ref h_w2]) rfl (own := "RealTextLaw") (name1 := zx_ia) (name := zx_ar) (tn := zx_ar) hown htab rfl (by decide) (hw _ wd_459) rfl (by decide) (hw _ wd_555) hce hvm (by rw [← show zt_nar u_1.1 = zx_ar from if_neg hc1]; exact hfc) hX.2.2.2.2.2.2.2.2.2.2.2.2.2.1 (va_Nw.use rfl hX.2.2.2.2.2.2.2.2.2.2.2.1)
      have hWh : W p l e (headSpec ws_Law_read rm_Law_read).room s m [.ref h_w0, .int x1, .ref h_w2].toArray below meth c (T.setVm vm2).heap locs (0 + 1) (0 + 6) Qq (F0 m 14 ls [.ref x]) := by
        refine lv_astore_n hx hb d_Law_read_14 rfl hl (by decide) rfl (fun ls hl => ?_)
        refine lv_iconst (v := 2) hx hb d_Law_read_15 (by decide) ?_
        cases hf
        exact hend 16 ls _ _ d_Law_read_16 hP hD hS
      obtain ⟨t, a1, b1⟩ := hWh (T.setVm vm2) rfl X2
      exact ⟨t, st2 t a1, b1⟩
abbrev ws_Law_count : List Cond := .codeWith y_Law_count method_5_code 4 (some .int) [(0, 9, 12, 13)] :: zw
abbrev rm_Law_count : Room := { frames := 7, cells := 1, slots := 6, locals := 111 }
theorem hd_Law_count : y_Law_count.cls ≠ "java/lang/invoke/MethodHandle" ∧ y_Law_count.cls ≠ "java/lang/invoke/VarHandle" ∧ (parseMethodDescriptor y_Law_count.desc).map (fun d => d.parameters.length) = some 3 := by decide +kernel
theorem d_Law_count_0 : decode method_5_code 0 = .ok (.aload_n 2, 1) := by decide +kernel
theorem d_Law_count_1 : decode method_5_code 1 = .ok (.iconst 0, 1) := by decide +kernel
theorem d_Law_count_2 : decode method_5_code 2 = .ok (.aload_n 0, 1) := by decide +kernel
theorem d_Law_count_3 : decode method_5_code 3 = .ok (.iload_n 1, 1) := by decide +kernel
theorem d_Law_count_4 : decode method_5_code 4 = .ok (.invokevirtual 23, 3) := by decide +kernel
theorem d_Law_count_7 : decode method_5_code 7 = .ok (.i2l, 1) := by decide +kernel
theorem d_Law_count_8 : decode method_5_code 8 = .ok (.lastore, 1) := by decide +kernel
theorem d_Law_count_9 : decode method_5_code 9 = .ok (.goto 6, 3) := by decide +kernel
theorem d_Law_count_12 : decode method_5_code 12 = .ok (.astore_n 3, 1) := by decide +kernel
theorem d_Law_count_13 : decode method_5_code 13 = .ok (.iconst 1, 1) := by decide +kernel
theorem d_Law_count_14 : decode method_5_code 14 = .ok (.ireturn, 1) := by decide +kernel
theorem d_Law_count_15 : decode method_5_code 15 = .ok (.iconst 0, 1) := by decide +kernel
theorem d_Law_count_16 : decode method_5_code 16 = .ok (.ireturn, 1) := by decide +kernel
def f_Law_count (n_w2 : Nat) (x1 : Int32) (w0_readCount : Int32) (w0_noLiteralCount : Int32) (w0_outOfRangeCount : Int32) (w0_theText_start : Int32) (w0_theText_end : Int32) (w0_written_start : Int32) (w0_written_end : Int32) (w2_a : Nat → Int64) : Option (Int32 × (Nat → Int64)) :=
  (f_RT_count x1 w0_readCount w0_noLiteralCount w0_outOfRangeCount w0_theText_start w0_theText_end w0_written_start w0_written_end).bind fun u_1 =>
  if u_1.1 = 0 then
  (if zz_in (0 : Int32) n_w2 = true then
  some (0, vp_updL w2_a (0 : Int32).toNatClampNeg ((u_1.2).toInt64))
  else none)
  else if u_1.1 = 1 then
  some (1, w2_a)
  else none
set_option maxHeartbeats 4000000 in
set_option maxRecDepth 100000 in
theorem c_Law_count (l : Launch) (htl : l.stackTraces = false) (dC : Nat → ClassId) (dI : Nat → Nat → Nat) (cI cC cB cJ : ClassId) (adF : Nat → Nat) (tp : Nat) (adK adV : Nat → Nat) (sz : Nat) (h_w0 : Nat) (h_w0_theText : Nat) (h_w0_written : Nat) (h_w2 : Nat) (h_w0_literal : Nat) (h_w0_quotient : Nat) (h_w0_shortest : Nat) (h_w0_decimal : Nat) (h_w0_theText_letters : Nat) (h_w0_written_letters : Nat) (n_w2 : Nat) (x1 : Int32) (w0_readCount : Int32) (w0_noLiteralCount : Int32) (w0_outOfRangeCount : Int32) (w0_theText_start : Int32) (w0_theText_end : Int32) (w0_written_start : Int32) (w0_written_end : Int32) (w2_a : Nat → Int64) (u : Int32 × (Nat → Int64)) (hf : f_Law_count n_w2 x1 w0_readCount w0_noLiteralCount w0_outOfRangeCount w0_theText_start w0_theText_end w0_written_start w0_written_end w2_a = some u) : Met l y_Law_count ws_Law_count rm_Law_count (zz_P (zx_E adF tp adK adV) (dC, dI) vwCl (zz_tys cI cC cB cJ) [.ref h_w0, .int x1, .ref h_w2] [(h_w0, .inr (6, [.ref h_w0_theText, .ref h_w0_written, .ref h_w0_literal, .ref h_w0_quotient, .ref h_w0_shortest, .ref h_w0_decimal, .int w0_readCount, .int w0_noLiteralCount, .int w0_outOfRangeCount])), (h_w0_theText, .inr (4, [.ref h_w0_theText_letters, .int w0_theText_start, .int w0_theText_end])), (h_w0_written, .inr (4, [.ref h_w0_written_letters, .int w0_written_start, .int w0_written_end])), (h_w2, .inl (cJ, n_w2, .inr (.inl w2_a)))] sz) (zz_Qi (dC, dI) vwCl u.1 [(h_w0, .inr (6, [.ref h_w0_theText, .ref h_w0_written, .ref h_w0_literal, .ref h_w0_quotient, .ref h_w0_shortest, .ref h_w0_decimal, .int w0_readCount, .int w0_noLiteralCount, .int w0_outOfRangeCount])), (h_w0_theText, .inr (4, [.ref h_w0_theText_letters, .int w0_theText_start, .int w0_theText_end])), (h_w0_written, .inr (4, [.ref h_w0_written_letters, .int w0_written_start, .int w0_written_end])), (h_w2, .inl (cJ, n_w2, .inr (.inl u.2)))] (va_A [(h_w0, .inr (6, [.ref h_w0_theText, .ref h_w0_written, .ref h_w0_literal, .ref h_w0_quotient, .ref h_w0_shortest, .ref h_w0_decimal, .int w0_readCount, .int w0_noLiteralCount, .int w0_outOfRangeCount])), (h_w0_theText, .inr (4, [.ref h_w0_theText_letters, .int w0_theText_start, .int w0_theText_end])), (h_w0_written, .inr (4, [.ref h_w0_written_letters, .int w0_written_start, .int w0_written_end])), (h_w2, .inl (cJ, n_w2, .inr (.inl w2_a)))] sz)) 1 6 (va_A [(h_w0, .inr (6, [.ref h_w0_theText, .ref h_w0_written, .ref h_w0_literal, .ref h_w0_quotient, .ref h_w0_shortest, .ref h_w0_decimal, .int w0_readCount, .int w0_noLiteralCount, .int w0_outOfRangeCount])), (h_w0_theText, .inr (4, [.ref h_w0_theText_letters, .int w0_theText_start, .int w0_theText_end])), (h_w0_written, .inr (4, [.ref h_w0_written_letters, .int w0_written_start, .int w0_written_end])), (h_w2, .inl (cJ, n_w2, .inr (.inl w2_a)))] sz) := by
  refine va_MetW (cc := method_5_code) (maxL := 4) (ret := (some .int)) (hh := [(0, 9, 12, 13)]) (by decide +kernel) rfl ?_
  intro p e s m args below meth c s₁ B hml hv
  obtain ⟨rfl, hsz, hP, hK, hD0, hX⟩ := hv
  have hx := B.exec
  have hb := B.bytes
  have hr := B.returns
  have hts := atoms_spec (ws := ws_Law_count) B.pre
  have hw : ∀ w ∈ zw, w.before [.ref h_w0, .int x1, .ref h_w2].toArray s = true := fun w h => hts w (List.mem_cons_of_mem _ h)
  have hown : s.vm.findClass R_Law = some m.cls := findClass_of_methodNamed B.named
  have hlocks := B.notSynchronized
  have htab := zt_tab1 (zt_tabOf B (hts _ List.mem_cons_self))
  subst hsz
  have hD := hD0.self (sz := s.heap.size)
  generalize hAe : va_A [(h_w0, .inr (6, [.ref h_w0_theText, .ref h_w0_written, .ref h_w0_literal, .ref h_w0_quotient, .ref h_w0_shortest, .ref h_w0_decimal, .int w0_readCount, .int w0_noLiteralCount, .int w0_outOfRangeCount])), (h_w0_theText, .inr (4, [.ref h_w0_theText_letters, .int w0_theText_start, .int w0_theText_end])), (h_w0_written, .inr (4, [.ref h_w0_written_letters, .int w0_written_start, .int w0_written_end])), (h_w2, .inl (cJ, n_w2, .inr (.inl w2_a)))] s.heap.size = A at hD hX ⊢
  have hA : ∀ q : Nat, s.heap.size ≤ q → A q := fun q h => by rw [← hAe]; exact Or.inr h
  have hS : va_S A s.heap s.heap [] := va_S.rf
  have hl := lv_entry [.ref h_w0, .int x1, .ref h_w2] (n := 4) (Nat.le_of_ble_eq_true rfl)
  rw [lg_entry_eq]
  generalize (lg_sl [.ref h_w0, .int x1, .ref h_w2] ++ List.replicate (4 - (lg_sl [.ref h_w0, .int x1, .ref h_w2]).length) Slot.unset).toArray = ls at hl ⊢
  have hl : lv_has ls 4 [(0, .ref h_w0), (1, .int x1), (2, .ref h_w2)] := hl
  refine zz_endim hx hb hr hlocks (fun Qq hend => ?_)
  unfold f_Law_count at hf
  obtain ⟨u_1, hu_1, hf⟩ := zz_bd hf
  refine lv_aload_n hx hb d_Law_count_0 rfl (lv_at hl 2 rfl) ?_
  refine lv_iconst (v := 0) hx hb d_Law_count_1 (by decide) ?_
  refine lv_aload_n hx hb d_Law_count_2 rfl (lv_at hl 0 rfl) ?_
  refine lv_iload_n hx hb d_Law_count_3 rfl (lv_at hl 1 rfl) ?_
  refine zx_call (nmf := zt_nis) (ws' := [(h_w0, .inr (6, [.ref h_w0_theText, .ref h_w0_written, .ref h_w0_literal, .ref h_w0_quotient, .ref h_w0_shortest, .ref h_w0_decimal, .int w0_readCount, .int w0_noLiteralCount, .int w0_outOfRangeCount])), (h_w0_theText, .inr (4, [.ref h_w0_theText_letters, .int w0_theText_start, .int w0_theText_end])), (h_w0_written, .inr (4, [.ref h_w0_written_letters, .int w0_written_start, .int w0_written_end])), (h_w2, .inl (cJ, n_w2, .inr (.inl w2_a)))]) (wc := [(h_w0, .inr (6, [.ref h_w0_theText, .ref h_w0_written, .ref h_w0_literal, .ref h_w0_quotient, .ref h_w0_shortest, .ref h_w0_decimal, .int w0_readCount, .int w0_noLiteralCount, .int w0_outOfRangeCount])), (h_w0_theText, .inr (4, [.ref h_w0_theText_letters, .int w0_theText_start, .int w0_theText_end])), (h_w0_written, .inr (4, [.ref h_w0_written_letters, .int w0_written_start, .int w0_written_end]))]) (w' := [(h_w0, .inr (6, [.ref h_w0_theText, .ref h_w0_written, .ref h_w0_literal, .ref h_w0_quotient, .ref h_w0_shortest, .ref h_w0_decimal, .int w0_readCount, .int w0_noLiteralCount, .int w0_outOfRangeCount])), (h_w0_theText, .inr (4, [.ref h_w0_theText_letters, .int w0_theText_start, .int w0_theText_end])), (h_w0_written, .inr (4, [.ref h_w0_written_letters, .int w0_written_start, .int w0_written_end]))]) hP hD hS hA [0, 1, 2] [3] [1, 2, 3, 0] rfl rfl (by decide) (by decide) rfl (by decide) (xm_runV (As := [.int x1]) (rest := [.int 0, .ref h_w2]) ⟨hx, hb, hml, hown, hw⟩ (c_RT_count l htl dC dI cI cC cB cJ adF tp adK adV _ h_w0 h_w0_theText h_w0_written h_w0_literal h_w0_quotient h_w0_shortest h_w0_decimal h_w0_theText_letters h_w0_written_letters x1 w0_readCount w0_noLiteralCount w0_outOfRangeCount w0_theText_start w0_theText_end w0_written_start w0_written_end u_1 hu_1) (cwV 1 hw (zg_V wd_664 wd_665 wd_666 wd_1 wd_667) rfl rfl rfl hd_RT_count ⟨Nat.le_of_ble_eq_true rfl, Nat.le_of_ble_eq_true rfl⟩) (zz_preV (zx_ok adF tp adK adV) (va_recv (q0 := 0) (ci := 6) hK hP rfl rfl) hP hD hK hS hA hX [0, 1, 2] rfl (by decide)) rfl rfl hl.1 rfl (lv_room (Nat.le_of_ble_eq_true rfl)) d_Law_count_4 ⟨Nat.le_of_ble_eq_true rfl, Nat.le_of_ble_eq_true rfl⟩) (fun hc H locs hP hD hS => ?_) (fun hc x ce T locs hce hvm hfc hP hD hS X => ?_)
  · have hf := zz_ifp hc hf
    obtain ⟨hb_2, hf⟩ := zz_gd hf
    refine lv_i2l hx hb d_Law_count_7 rfl ?_
    refine va_last hx hb hK hP hD hS 3 3 rfl rfl (zz_vp hb_2) d_Law_count_8 (fun H locs hP hD hS => ?_)
    have hP : va_P (dC, dI) vwCl [(h_w0, .inr (6, [.ref h_w0_theText, .ref h_w0_written, .ref h_w0_literal, .ref h_w0_quotient, .ref h_w0_shortest, .ref h_w0_decimal, .int w0_readCount, .int w0_noLiteralCount, .int w0_outOfRangeCount])), (h_w0_theText, .inr (4, [.ref h_w0_theText_letters, .int w0_theText_start, .int w0_theText_end])), (h_w0_written, .inr (4, [.ref h_w0_written_letters, .int w0_written_start, .int w0_written_end])), (h_w2, .inl (cJ, n_w2, .inr (.inl (vp_updL w2_a (0 : Int32).toNatClampNeg ((u_1.2).toInt64)))))] H := hP
    have hD : va_D A [(h_w0, .inr (6, [.ref h_w0_theText, .ref h_w0_written, .ref h_w0_literal, .ref h_w0_quotient, .ref h_w0_shortest, .ref h_w0_decimal, .int w0_readCount, .int w0_noLiteralCount, .int w0_outOfRangeCount])), (h_w0_theText, .inr (4, [.ref h_w0_theText_letters, .int w0_theText_start, .int w0_theText_end])), (h_w0_written, .inr (4, [.ref h_w0_written_letters, .int w0_written_start, .int w0_written_end])), (h_w2, .inl (cJ, n_w2, .inr (.inl (vp_updL w2_a (0 : Int32).toNatClampNeg ((u_1.2).toInt64)))))] := hD
    refine lv_goto (tgt := 15) hx hb d_Law_count_9 (by decide) ?_
    refine lv_iconst (v := 0) hx hb d_Law_count_15 (by decide) ?_
    cases hf
    exact hend 16 ls _ _ d_Law_count_16 hP hD hS
  · have hf := zz_ifn hc hf
    by_cases hc1 : u_1.1 = 1
    · have hf := zz_ifp hc1 hf
      obtain ⟨vm2, X2, st2⟩ := xm_catch1 X x (g := F0 m 4 ls [.int 0, .ref h_w2]) rfl (own := "RealTextLaw") (name := zx_ia) (tn := zx_ia) hown htab rfl (by decide) (hw _ wd_459) hce hvm (by rw [← show zt_nis u_1.1 = zx_ia from if_pos hc1]; exact hfc) (va_Nw.use rfl hX.2.2.2.2.2.2.2.2.2.1)
      have hWh : W p l e (headSpec ws_Law_count rm_Law_count).room s m [.ref h_w0, .int x1, .ref h_w2].toArray below meth c (T.setVm vm2).heap locs (0 + 1) (0 + 6) Qq (F0 m 12 ls [.ref x]) := by
        refine lv_astore_n hx hb d_Law_count_12 rfl hl (by decide) rfl (fun ls hl => ?_)
        refine lv_iconst (v := 1) hx hb d_Law_count_13 (by decide) ?_
        cases hf
        exact hend 14 ls _ _ d_Law_count_14 hP hD hS
      obtain ⟨t, a1, b1⟩ := hWh (T.setVm vm2) rfl X2
      exact ⟨t, st2 t a1, b1⟩
    · have hf := zz_ifn hc1 hf
      exact zz_no hf
