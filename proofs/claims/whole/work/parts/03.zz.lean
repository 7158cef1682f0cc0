-- own rows over the kit's: a contract's start and end, the statics' context, calls with their frame in one step
def zz_lt {α β : Type} (e : α) (f : α → β) : β := f e
theorem zz_ltp {α β : Type} {e : α} {f : α → Option β} {u : β} (h : zz_lt e f = some u) (x : α) (hx : x = e) : f x = some u := by
  rw [hx]
  exact h
theorem zz_gd {c : Prop} [Decidable c] {β : Type} {a : Option β} {u : β} (h : (if c then a else none) = some u) : c ∧ a = some u := by
  by_cases hc : c
  · rw [if_pos hc] at h
    exact ⟨hc, h⟩
  · rw [if_neg hc] at h
    cases h
theorem zz_bd {α β : Type} {o : Option α} {f : α → Option β} {u : β} (h : o.bind f = some u) : ∃ v, o = some v ∧ f v = some u := by
  cases o with
  | none => cases h
  | some v => exact ⟨v, rfl, h⟩
theorem zz_ifp {c : Prop} [Decidable c] {β : Type} {a b : Option β} {u : β} (hc : c) (h : (if c then a else b) = some u) : a = some u := by
  rw [if_pos hc] at h
  exact h
theorem zz_ifn {c : Prop} [Decidable c] {β : Type} {a b : Option β} {u : β} (hc : ¬ c) (h : (if c then a else b) = some u) : b = some u := by
  rw [if_neg hc] at h
  exact h
theorem zz_no {β : Type} {u : β} {P : Prop} (h : (none : Option β) = some u) : P := by cases h
/-- an index within a row -/
def zz_in (i : Int32) (n : Nat) : Bool := decide (0 ≤ i.toInt) && decide (i.toInt < n)
theorem zz_vp {i : Int32} {n : Nat} (h : zz_in i n = true) : vp_in i n := by
  rw [vp_in_iff]
  simpa [zz_in] using h
/-- the statics' context: what it must bear -/
def zz_E (E : (Nat → Prop) → State → Heap → Prop) : Prop :=
  (∀ (A : Nat → Prop) (u U : State) (H : Heap), u.WarmedH U.vm → E A u H → E A U H) ∧
  (∀ (A : Nat → Prop) (U : State) (H H1 : Heap), E A U H → (∀ a : Nat, a < H.size → ¬ A a → H1[a]? = H[a]?) → E A U H1) ∧
  (∀ (A B : Nat → Prop) (U : State) (H : Heap), E A U H → (∀ q, B q → A q) → E B U H)
def zz_T : (Nat → Prop) → State → Heap → Prop := fun _ _ _ => True
theorem zz_TE : zz_E zz_T := ⟨fun _ _ _ _ _ _ => trivial, fun _ _ _ _ _ _ => trivial, fun _ _ _ _ _ _ => trivial⟩
def zz_P (E : (Nat → Prop) → State → Heap → Prop) (D : va_G) (cl : List vw_C) (tys : List (ClassId × FieldType)) (av : List Value) (wc : va_W) (sz : Nat) : Array Value → State → Prop :=
  va_Pc av (fun U => U.heap.size = sz ∧ va_P D cl wc U.heap ∧ va_K D cl tys U ∧ va_D (fun _ => True) wc ∧ E (va_A wc sz) U U.heap)
def zz_B (D : va_G) (cl : List vw_C) (A : Nat → Prop) (w' : va_W) (t : State) : Prop := va_P D cl w' t.heap ∧ va_D A w'
abbrev zz_Qi (D : va_G) (cl : List vw_C) (r : Int32) (w' : va_W) (A : Nat → Prop) : Array Value → State → Outcome → State → Prop := va_Qi (S := Unit) (fun r0 _ => r0 = r) (fun _ t => zz_B D cl A w' t) A
abbrev zz_Ql (D : va_G) (cl : List vw_C) (r : Int64) (w' : va_W) (A : Nat → Prop) : Array Value → State → Outcome → State → Prop := va_Ql (S := Unit) (fun r0 _ => r0 = r) (fun _ t => zz_B D cl A w' t) A
abbrev zz_Qv (D : va_G) (cl : List vw_C) (w' : va_W) (A : Nat → Prop) : Array Value → State → Outcome → State → Prop := va_Qv (S := Unit) (fun _ => True) (fun _ t => zz_B D cl A w' t) A
section Zz
variable {p : Program} {l : Launch} {e : Env} {R : Room} {s : State} {m : MethodId} {args : Array Value} {below : List Frame} {meth : Method} {c : Code} {H : Heap} {locs : List Loc} {cells slots : Nat} {Q : State → Prop}
variable {E : (Nat → Prop) → State → Heap → Prop} {D : va_G} {cl : List vw_C} {tys : List (ClassId × FieldType)} {ws wc w' ws' : va_W} {A : Nat → Prop}
variable {pc : Nat} {ls : Array Slot} {rest st0 : List Value} {a : Array Value}
theorem zz_blind (hE : zz_E E) {av : List Value} {sz : Nat} : FrameBlind (zz_P E D cl tys av wc sz) := by
  intro a U g mk q
  obtain ⟨q0, q1, qP, qK, qD, qE⟩ := q
  exact ⟨q0, q1, qP, va_K.moved (u := U) (U := U.calling g mk a) (Vm.Alike.refl U.vm) qK, qD, hE.1 _ U (U.calling g mk a) _ (State.WarmedH.refl U) qE⟩
theorem zz_at (hE : zz_E E) (hP : va_P D cl ws H) (hD : va_D A ws) (hK : va_K D cl tys s) (hS : va_S A s.heap H locs) (hA : ∀ q, s.heap.size ≤ q → A q) (hX : E A s s.heap) (isC : List Nat) (hC : isC.map (fun i => ws[i]?) = wc.map some) (hn : va_nd isC = true) {av : List Value} :
    ∀ U : State, U.heap = H → s.WarmedH U.vm → zz_P E D cl tys av wc H.size av.toArray U := by
  intro U hU hW
  have hF := va_free hD hS hA isC hC
  have hPc : va_P D cl wc H := by
    intro k q hk
    have h1 : (isC.map (fun i => ws[i]?))[k]? = some (some q) := by rw [hC, List.getElem?_map, hk]; rfl
    rw [List.getElem?_map] at h1
    cases hi : isC[k]? with
    | none => rw [hi] at h1; cases h1
    | some i => rw [hi] at h1; exact hP i q (Option.some.inj h1)
  have h0 : E A s H := hE.2.1 A s s.heap H hX (fun q h1 h2 => hS.2.1 q h1 h2)
  have h1 : E (va_A wc H.size) U H := hE.2.2 _ _ _ _ (hE.1 _ _ _ _ hW h0) hF
  exact ⟨rfl, by rw [hU], by rw [hU]; exact hPc, va_K.moved hW.alike hK, (hD.sub isC hn hC).weaken (fun _ _ _ _ => trivial), by rw [hU]; exact h1⟩
theorem zz_preS (hE : zz_E E) (hP : va_P D cl ws H) (hD : va_D A ws) (hK : va_K D cl tys s) (hS : va_S A s.heap H locs) (hA : ∀ q, s.heap.size ≤ q → A q) (hX : E A s s.heap) (isC : List Nat) (hC : isC.map (fun i => ws[i]?) = wc.map some) (hn : va_nd isC = true) {As : List Value} :
    PreS s H (zz_P E D cl tys As wc H.size) As := ⟨zz_blind hE, zz_at hE hP hD hK hS hA hX isC hC hn⟩
theorem zz_preV {C : String} {b : Nat} (hE : zz_E E) (hr : ∃ cell : Cell, H[b]? = some cell ∧ cell.vm.isStatics = false ∧ s.vm.findClass C = some cell.cls) (hP : va_P D cl ws H) (hD : va_D A ws) (hK : va_K D cl tys s) (hS : va_S A s.heap H locs) (hA : ∀ q, s.heap.size ≤ q → A q) (hX : E A s s.heap) (isC : List Nat) (hC : isC.map (fun i => ws[i]?) = wc.map some) (hn : va_nd isC = true) {As : List Value} :
    PreV s H C b (zz_P E D cl tys (.ref b :: As) wc H.size) As := ⟨zz_blind hE, hr, zz_at hE hP hD hK hS hA hX isC hC hn⟩
theorem zz_back (hP : va_P D cl ws H) (hD : va_D A ws) (hS : va_S A s.heap H locs) (hA : ∀ q, s.heap.size ≤ q → A q) (isC isR perm : List Nat) (hC : isC.map (fun i => ws[i]?) = wc.map some) (hR : isR.map (fun i => ws[i]?) = (isR.filterMap (fun i => ws[i]?)).map some) (hn : va_nd isR = true) (hdis : ∀ i ∈ isR, i ∉ isC)
    (hp : perm.map (fun i => (isR.filterMap (fun i => ws[i]?) ++ w')[i]?) = ws'.map some) (hpn : va_nd perm = true) {H1 : Heap} (hk : ∀ q : Nat, q < H.size → ¬ va_A wc H.size q → H1[q]? = H[q]?) (hP1 : va_P D cl w' H1) (hD1 : va_D (va_A wc H.size) w') : va_P D cl ws' H1 ∧ va_D A ws' := by
  obtain ⟨h1, h2⟩ := va_join hP hD isC isR hC hR hn hdis hk (va_free hD hS hA isC hC) hP1 hD1
  refine ⟨fun k q hq => ?_, h2.sub perm hpn hp⟩
  have h3 : (perm.map (fun i => (isR.filterMap (fun i => ws[i]?) ++ w')[i]?))[k]? = some (some q) := by rw [hp, List.getElem?_map, hq]; rfl
  rw [List.getElem?_map] at h3
  cases hi : perm[k]? with
  | none => rw [hi] at h3; cases h3
  | some i => rw [hi] at h3; exact h1 i q (Option.some.inj h3)
theorem zz_ci {r : Int32} (hP : va_P D cl ws H) (hD : va_D A ws) (hS : va_S A s.heap H locs) (hA : ∀ q, s.heap.size ≤ q → A q) (isC isR perm : List Nat) (hC : isC.map (fun i => ws[i]?) = wc.map some) (hR : isR.map (fun i => ws[i]?) = (isR.filterMap (fun i => ws[i]?)).map some) (hn : va_nd isR = true) (hdis : ∀ i ∈ isR, i ∉ isC)
    (hp : perm.map (fun i => (isR.filterMap (fun i => ws[i]?) ++ w')[i]?) = ws'.map some) (hpn : va_nd perm = true) (hr : va_Run p l e R s m args below meth c H locs cells slots 0 0 (F0 m pc ls st0) rest (zz_Qi D cl r w' (va_A wc H.size) a) (va_A wc H.size))
    (kk : ∀ (H1 : Heap) (locs1 : List Loc), va_P D cl ws' H1 → va_D A ws' → va_S A s.heap H1 locs1 → W p l e R s m args below meth c H1 locs1 cells slots Q (F0 m (pc + 3) ls (.int r :: rest))) : W p l e R s m args below meth c H locs cells slots Q (F0 m pc ls st0) := by
  have hF := va_free hD hS hA isC hC
  refine va_calli hr hS (fun q _ h => hF q h) hF (fun r0 u t H1 locs1 ht hvm hw hB hz1 hk1 hS1 => ?_)
  subst hw
  have hB1 : va_P D cl w' H1 := by rw [← ht]; exact hB.1
  obtain ⟨g1, g2⟩ := zz_back hP hD hS hA isC isR perm hC hR hn hdis hp hpn hk1 hB1 hB.2
  exact kk H1 locs1 g1 g2 hS1
theorem zz_cl {r : Int64} (hP : va_P D cl ws H) (hD : va_D A ws) (hS : va_S A s.heap H locs) (hA : ∀ q, s.heap.size ≤ q → A q) (isC isR perm : List Nat) (hC : isC.map (fun i => ws[i]?) = wc.map some) (hR : isR.map (fun i => ws[i]?) = (isR.filterMap (fun i => ws[i]?)).map some) (hn : va_nd isR = true) (hdis : ∀ i ∈ isR, i ∉ isC)
    (hp : perm.map (fun i => (isR.filterMap (fun i => ws[i]?) ++ w')[i]?) = ws'.map some) (hpn : va_nd perm = true) (hr : va_Run p l e R s m args below meth c H locs cells slots 0 0 (F0 m pc ls st0) rest (zz_Ql D cl r w' (va_A wc H.size) a) (va_A wc H.size))
    (kk : ∀ (H1 : Heap) (locs1 : List Loc), va_P D cl ws' H1 → va_D A ws' → va_S A s.heap H1 locs1 → W p l e R s m args below meth c H1 locs1 cells slots Q (F0 m (pc + 3) ls (.long r :: rest))) : W p l e R s m args below meth c H locs cells slots Q (F0 m pc ls st0) := by
  have hF := va_free hD hS hA isC hC
  refine va_calll hr hS (fun q _ h => hF q h) hF (fun r0 u t H1 locs1 ht hvm hw hB hz1 hk1 hS1 => ?_)
  subst hw
  have hB1 : va_P D cl w' H1 := by rw [← ht]; exact hB.1
  obtain ⟨g1, g2⟩ := zz_back hP hD hS hA isC isR perm hC hR hn hdis hp hpn hk1 hB1 hB.2
  exact kk H1 locs1 g1 g2 hS1
theorem zz_cv (hP : va_P D cl ws H) (hD : va_D A ws) (hS : va_S A s.heap H locs) (hA : ∀ q, s.heap.size ≤ q → A q) (isC isR perm : List Nat) (hC : isC.map (fun i => ws[i]?) = wc.map some) (hR : isR.map (fun i => ws[i]?) = (isR.filterMap (fun i => ws[i]?)).map some) (hn : va_nd isR = true) (hdis : ∀ i ∈ isR, i ∉ isC)
    (hp : perm.map (fun i => (isR.filterMap (fun i => ws[i]?) ++ w')[i]?) = ws'.map some) (hpn : va_nd perm = true) (hr : va_Run p l e R s m args below meth c H locs cells slots 0 0 (F0 m pc ls st0) rest (zz_Qv D cl w' (va_A wc H.size) a) (va_A wc H.size))
    (kk : ∀ (H1 : Heap) (locs1 : List Loc), va_P D cl ws' H1 → va_D A ws' → va_S A s.heap H1 locs1 → W p l e R s m args below meth c H1 locs1 cells slots Q (F0 m (pc + 3) ls rest)) : W p l e R s m args below meth c H locs cells slots Q (F0 m pc ls st0) := by
  have hF := va_free hD hS hA isC hC
  refine va_callv hr hS (fun q _ h => hF q h) hF (fun u t H1 locs1 ht hvm hw hB hz1 hk1 hS1 => ?_)
  have hB1 : va_P D cl w' H1 := by rw [← ht]; exact hB.1
  obtain ⟨g1, g2⟩ := zz_back hP hD hS hA isC isR perm hC hR hn hdis hp hpn hk1 hB1 hB.2
  exact kk H1 locs1 g1 g2 hS1
/-- a method's end: the return rows, once for all its returns -/
theorem zz_endi {cc : ByteArray} {r : Int32} {g : JFrame} {H0 : Heap} {L0 : List Loc} (hx : p.tables.exec = Jvm.exec) (hb : c.code = cc) (hr : meth.sig.returnType = some .int) (hlocks : meth.locks = false)
    (k : ∀ Qq : State → Prop, (∀ (pc : Nat) (ls : Array Slot) (H : Heap) (locs : List Loc), decode cc pc = .ok (.ireturn, 1) → va_P D cl w' H → va_D A w' → va_S A s.heap H locs → W p l e R s m args below meth c H locs 0 0 Qq (F0 m pc ls [.int r])) → W p l e R s m args below meth c H0 L0 0 0 Qq g) :
    W p l e R s m args below meth c H0 L0 0 0 (MQ below (zz_Qi D cl r w' A) args s 0 0 A) g :=
  k _ (fun pc ls H locs hd hP hD hS => W.iret (v := r) hx hb hr (fun t ht hW => ⟨⟨r, (), rfl, rfl, by rw [ht]; exact hP, hD⟩, hS.F ht⟩) hS.2.2 hd)
theorem zz_endz {cc : ByteArray} {r : Int32} {g : JFrame} {H0 : Heap} {L0 : List Loc} {ty : FieldType} (hx : p.tables.exec = Jvm.exec) (hb : c.code = cc) (hr : meth.sig.returnType = some ty) (hlocks : meth.locks = false)
    (k : ∀ Qq : State → Prop, (∀ (pc : Nat) (ls : Array Slot) (H : Heap) (locs : List Loc), narrow ty (.int r) = .int r → decode cc pc = .ok (.ireturn, 1) → va_P D cl w' H → va_D A w' → va_S A s.heap H locs → W p l e R s m args below meth c H locs 0 0 Qq (F0 m pc ls [.int r])) → W p l e R s m args below meth c H0 L0 0 0 Qq g) :
    W p l e R s m args below meth c H0 L0 0 0 (MQ below (zz_Qi D cl r w' A) args s 0 0 A) g :=
  k _ (fun pc ls H locs hn hd hP hD hS => W.zret (v := r) hx hb hr hn (fun t ht hW => ⟨⟨r, (), rfl, rfl, by rw [ht]; exact hP, hD⟩, hS.F ht⟩) hS.2.2 hd)
theorem zz_endl {cc : ByteArray} {r : Int64} {g : JFrame} {H0 : Heap} {L0 : List Loc} (hx : p.tables.exec = Jvm.exec) (hb : c.code = cc) (hr : meth.sig.returnType = some .long) (hlocks : meth.locks = false)
    (k : ∀ Qq : State → Prop, (∀ (pc : Nat) (ls : Array Slot) (H : Heap) (locs : List Loc), decode cc pc = .ok (.lreturn, 1) → va_P D cl w' H → va_D A w' → va_S A s.heap H locs → W p l e R s m args below meth c H locs 0 0 Qq (F0 m pc ls [.long r])) → W p l e R s m args below meth c H0 L0 0 0 Qq g) :
    W p l e R s m args below meth c H0 L0 0 0 (MQ below (zz_Ql D cl r w' A) args s 0 0 A) g :=
  k _ (fun pc ls H locs hd hP hD hS => W.lret (v := r) hx hb hr (fun t ht hW => ⟨⟨r, (), rfl, rfl, by rw [ht]; exact hP, hD⟩, hS.F ht⟩) hS.2.2 hd)
theorem zz_endv {cc : ByteArray} {g : JFrame} {H0 : Heap} {L0 : List Loc} (hx : p.tables.exec = Jvm.exec) (hb : c.code = cc) (hr : meth.sig.returnType = none) (hlocks : meth.locks = false)
    (k : ∀ Qq : State → Prop, (∀ (pc : Nat) (ls : Array Slot) (H : Heap) (locs : List Loc), decode cc pc = .ok (.return_, 1) → va_P D cl w' H → va_D A w' → va_S A s.heap H locs → W p l e R s m args below meth c H locs 0 0 Qq (F0 m pc ls [])) → W p l e R s m args below meth c H0 L0 0 0 Qq g) :
    W p l e R s m args below meth c H0 L0 0 0 (MQ below (zz_Qv D cl w' A) args s 0 0 A) g :=
  k _ (fun pc ls H locs hd hP hD hS => W.vret hx hb hr (fun t ht hW => ⟨⟨(), rfl, trivial, by rw [ht]; exact hP, hD⟩, hS.F ht⟩) hS.2.2 hd)
end Zz
abbrev zz_tys (cI cC cB cJ : ClassId) : List (ClassId × FieldType) := [(cI, .int), (cC, .char), (cB, .byte), (cJ, .long)]
/-- 0 or 1; a letter: what the narrow kinds hold -/
def zz_bo (x : Int32) : Bool := x == 0 || x == 1
def zz_ch (x : Int32) : Bool := zz_in x 65536
theorem zz_nar_boolean {x : Int32} (h : zz_bo x = true) : narrow .boolean (.int x) = .int x := by
  simp only [zz_bo, Bool.or_eq_true, beq_iff_eq] at h
  rcases h with rfl | rfl <;> rfl
theorem zz_fit_boolean {x : Int32} (h : zz_bo x = true) : fits .boolean (.int x) = true := by
  simp only [zz_bo, Bool.or_eq_true, beq_iff_eq] at h
  rcases h with rfl | rfl <;> rfl
theorem zz_nc0 : narrow .char (.int 0) = .int 0 := rfl
theorem zz_chN {x : Int32} (h : zz_ch x = true) : ∃ q : Nat, q < 65536 ∧ x = nI q := vp_in_of (zz_vp h) (by omega)
theorem zz_nar_char {x : Int32} (h : zz_ch x = true) : narrow .char (.int x) = .int x := by
  obtain ⟨q, h1, rfl⟩ := zz_chN h
  exact (pk_charN h1).1
theorem zz_fit_char {x : Int32} (h : zz_ch x = true) : fits .char (.int x) = true := by
  obtain ⟨q, h1, rfl⟩ := zz_chN h
  exact (pk_charN h1).2
/-- arraycopy within its rows -/
def zz_cp (sp dp n : Int32) (n0 n1 : Nat) : Bool := decide (0 ≤ sp.toInt) && (decide (0 ≤ dp.toInt) && (decide (0 ≤ n.toInt) && (decide (sp.toNatClampNeg + n.toNatClampNeg ≤ n0) && decide (dp.toNatClampNeg + n.toNatClampNeg ≤ n1))))
theorem zz_cpD {sp dp n : Int32} {n0 n1 : Nat} (h : zz_cp sp dp n n0 n1 = true) : ¬ sp < 0 ∧ ¬ dp < 0 ∧ ¬ n < 0 ∧ sp.toNatClampNeg + n.toNatClampNeg ≤ n0 ∧ dp.toNatClampNeg + n.toNatClampNeg ≤ n1 := by
  simp only [zz_cp, Bool.and_eq_true, decide_eq_true_eq] at h
  obtain ⟨h1, h2, h3, h4, h5⟩ := h
  have key : ∀ z : Int32, 0 ≤ z.toInt → ¬ z < 0 := by
    intro z hz q
    rw [Int32.lt_iff_toInt_lt, Int32.toInt_zero] at q
    omega
  exact ⟨key _ h1, key _ h2, key _ h3, h4, h5⟩
