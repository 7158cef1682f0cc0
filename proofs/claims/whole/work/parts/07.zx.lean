-- the statics: the two sizes of numbers, the powers of five, the three texts, what the library's own code reads
abbrev zx_q0 : String × String × String × List Int32 := ("RealText$Format", "fractionBits", "I", [23, 52])
abbrev zx_q1 : String × String × String × List Int32 := ("RealText$Format", "exponentMask", "I", [255, 2047])
abbrev zx_q2 : String × String × String × List Int32 := ("RealText$Format", "leastPower", "I", [-149, -1074])
abbrev zx_F : List (String × String × String × List Int32) := [zx_q0, zx_q1, zx_q2]
theorem zx_m0 : zx_q0 ∈ zx_F := List.mem_cons_self
theorem zx_m1 : zx_q1 ∈ zx_F := List.mem_cons_of_mem _ List.mem_cons_self
theorem zx_m2 : zx_q2 ∈ zx_F := List.mem_cons_of_mem _ (List.mem_cons_of_mem _ List.mem_cons_self)
abbrev zx_fractionBits (i : Nat) : Int32 := ([23, 52] : List Int32).getD i 0
abbrev zx_exponentMask (i : Nat) : Int32 := ([255, 2047] : List Int32).getD i 0
abbrev zx_leastPower (i : Nat) : Int32 := ([-149, -1074] : List Int32).getD i 0
abbrev zx_pw (j : Nat) : Int32 := ([1, 5, 25, 125, 625, 3125, 15625, 78125, 390625, 1953125, 9765625, 48828125, 244140625, 1220703125] : List Int32).getD j 0
abbrev zx_len : List Nat := [3, 8, 3]
abbrev zx_byt : List (List Int32) := [[78, 97, 78], [73, 110, 102, 105, 110, 105, 116, 121], [48, 46, 48]]
/-- a static that holds a reference or null, with all that the tables say of its place -/
def zs_R (C n d : String) (A : Nat → Prop) (U : State) (H : Heap) : Prop := ∃ (c : ClassId) (k : Class) (i : Nat) (f : Field) (a : Nat) (cell : Cell), U.vm.findClass C = some c ∧ U.fieldFound? C n d = some (c, k, i, f) ∧ f.isStatic = true ∧ k.statics = some a ∧ H[a]? = some cell ∧ cell.vm.isStatics = true ∧ cell.cls = c ∧ f.slot < cell.slots.size ∧ k.staticTypes[f.slot]? = some f.type ∧ (cell.slots[f.slot]? = some .null ∨ ∃ q, cell.slots[f.slot]? = some (.ref q)) ∧ ¬ A a
theorem zs_moved {C n d : String} {A : Nat → Prop} {u U : State} {H : Heap} (hvm : u.vm.Alike U.vm) (h : zs_R C n d A u H) : zs_R C n d A U H := by
  obtain ⟨c, k, i, f, a, cell, h0, h1, h2, h3, h4, h5, h6, h7, h8, h9⟩ := h
  obtain ⟨k', hi', he⟩ := State.fieldFound?_setVm hvm h1
  exact ⟨c, k', i, f, a, cell, by rw [hvm.findClass]; exact h0, hi', h2, by rw [he]; exact h3, h4, h5, h6, h7, by rw [he]; exact h8, h9⟩
theorem zs_kept {C n d : String} {A : Nat → Prop} {U : State} {H H1 : Heap} (h : zs_R C n d A U H) (hq : ∀ a : Nat, a < H.size → ¬ A a → H1[a]? = H[a]?) : zs_R C n d A U H1 := by
  obtain ⟨c, k, i, f, a, cell, h0, h1, h2, h3, h4, h5, h6, h7, h8, h9, h10⟩ := h
  exact ⟨c, k, i, f, a, cell, h0, h1, h2, h3, by rw [hq a (Array.getElem?_eq_some_iff.mp h4).1 h10]; exact h4, h5, h6, h7, h8, h9, h10⟩
theorem zs_narrow {C n d : String} {A B : Nat → Prop} {U : State} {H : Heap} (h : zs_R C n d A U H) (hAB : ∀ q, B q → A q) : zs_R C n d B U H := by
  obtain ⟨c, k, i, f, a, cell, h0, h1, h2, h3, h4, h5, h6, h7, h8, h9, h10⟩ := h
  exact ⟨c, k, i, f, a, cell, h0, h1, h2, h3, h4, h5, h6, h7, h8, h9, fun z => h10 (hAB a z)⟩
theorem zs_of {args : Array Value} {s : State} {C n d : String} {A : Nat → Prop} (h1 : (Cond.laysStatic C n d).before args s = true) (h2 : (Cond.isRef (.static C n d)).before args s = true) (hA : ∀ a : Nat, a < s.heap.size → ¬ A a) : zs_R C n d A s s.heap := by
  obtain ⟨c, k, i, f, a, cell, q1, q2, q3, q4, q5, q6, q7, q8, q9⟩ := Cond.laysStatic_spec h1
  refine ⟨c, k, i, f, a, cell, q1, q2, q3, q4, q5, q6, q7, q8, q9, ?_, hA a (Array.getElem?_eq_some_iff.mp q5).1⟩
  have he : (Term.static C n d).eval args s none [] s = cell.slots[f.slot]? := by
    simp [Term.eval, State.fieldNamed?, q2, q3, q4, q5, q6]
  have h3 : (Cond.isRef (.static C n d)).value args s none s [] = some true := by simpa [Cond.before, Cond.holds] using h2
  simp only [Cond.value] at h3
  rw [he] at h3
  cases hv : cell.slots[f.slot]? with
  | none => rw [hv] at h3; cases h3
  | some v =>
    rw [hv] at h3
    cases v with
    | null => exact Or.inl rfl
    | ref q => exact Or.inr ⟨q, rfl⟩
    | _ => simp at h3
theorem zs_lays {args : Array Value} {s : State} {C n d : String} {A : Nat → Prop} (h : zs_R C n d A s s.heap) : (Cond.laysStatic C n d).before args s = true := by
  obtain ⟨c, k, i, f, a, cell, h0, h1, h2, h3, h4, h5, h6, h7, h8, h9, h10⟩ := h
  simp [Cond.before, Cond.holds, Cond.value, h0, h1, h2, h3, h4, h5, h6, h7, h8]
theorem zs_ref {args : Array Value} {s : State} {C n d : String} {A : Nat → Prop} (h : zs_R C n d A s s.heap) : (Cond.isRef (.static C n d)).before args s = true := by
  obtain ⟨c, k, i, f, a, cell, h0, h1, h2, h3, h4, h5, h6, h7, h8, h9, h10⟩ := h
  have he : (Term.static C n d).eval args s none [] s = cell.slots[f.slot]? := by
    simp [Term.eval, State.fieldNamed?, h1, h2, h3, h4, h5]
  rcases h9 with h9 | ⟨q, h9⟩ <;> simp [Cond.before, Cond.holds, Cond.value, he, h9]
abbrev zx_ia : String := "java/lang/IllegalArgumentException"
abbrev zx_is : String := "java/lang/IllegalStateException"
abbrev zx_ar : String := "java/lang/ArithmeticException"
/-- what the tables say beside the words: casts, the nest's links -/
abbrev zx_N (U : State) : Prop :=
  va_Nw (.castable zx_ia zx_ia) U ∧ va_Nw (.castable zx_is zx_is) U ∧ va_Nw (.castable zx_ar zx_ar) U ∧ va_Nc zx_is zx_ia U ∧ va_Nc zx_ar zx_ia U ∧
  va_Nw (.methodLinkNest "RealText" 23 y_Lit_init "RealText") U ∧ va_Nw (.methodLinkNest "RealText" 30 y_Quo_init "RealText") U ∧ va_Nw (.methodLinkNest "RealText" 37 y_Sho_init "RealText") U ∧ va_Nw (.methodLinkNest "RealText" 44 y_Dec_init "RealText") U ∧
  va_Nw (.declares ⟨"java/lang/RuntimeException", "<init>", "()V"⟩) U ∧ va_Nw (.declares ⟨"java/lang/Exception", "<init>", "()V"⟩) U ∧ va_Nw (.declares ⟨"java/lang/Throwable", "<init>", "()V"⟩) U
theorem zx_Nw {s U : State} (hW : s.WarmedH U.vm) (h : zx_N s) : zx_N U := by
  obtain ⟨h1, h2, h3, h4, h5, h6, h7, h8, h9, h10, h11, h12⟩ := h
  exact ⟨va_Nw.warmC hW h1, va_Nw.warmC hW h2, va_Nw.warmC hW h3, va_Nc.moved hW.alike h4, va_Nc.moved hW.alike h5, va_Nw.warmM hW h6, va_Nw.warmM hW h7, va_Nw.warmM hW h8, va_Nw.warmM hW h9, va_Nw.warmD hW h10, va_Nw.warmD hW h11, va_Nw.warmD hW h12⟩
abbrev zx_E (adF : Nat → Nat) (tp : Nat) (adK adV : Nat → Nat) : (Nat → Prop) → State → Heap → Prop := fun A U H =>
  va_En "RealText$Format" "LRealText$Format;" ["FLOAT", "DOUBLE"] zx_F adF A U H ∧
  va_Z "RealText$Big" "POWERS_OF_FIVE" "[I" (.ref tp) A U H ∧
  va_T .int tp 14 (fun j => .int (zx_pw j)) A U H ∧
  vk_S 3 zx_len zx_byt adK adV A U H ∧
  (vk_R "RealText" 115 "NaN" (adK 0) U ∧ vk_R "RealText" 124 "Infinity" (adK 1) U ∧ vk_R "RealText" 126 "0.0" (adK 2) U) ∧
  va_Z "java/lang/String" "COMPACT_STRINGS" "Z" (.int 1) A U H ∧
  va_Zq "jdk/internal/util/Preconditions" "SIOOBE_FORMATTER" "Ljava/util/function/BiFunction;" A U H ∧
  zs_R "java/lang/Throwable" "UNASSIGNED_STACK" "[Ljava/lang/StackTraceElement;" A U H ∧
  zs_R "java/lang/Throwable" "SUPPRESSED_SENTINEL" "Ljava/util/List;" A U H ∧
  zx_N U
theorem zx_ok (adF : Nat → Nat) (tp : Nat) (adK adV : Nat → Nat) : zz_E (zx_E adF tp adK adV) := by
  refine ⟨fun A u U H hW h => ?_, fun A U H H1 h hq => ?_, fun A B U H h hAB => ?_⟩
  · obtain ⟨h1, h2, h3, h4, ⟨h5, h6, h7⟩, h8, h9, h10, h11, h12⟩ := h
    exact ⟨va_En.moved hW.alike h1, va_Z.moved hW.alike h2, va_T.moved hW.alike h3, vk_S.moved hW.alike h4, ⟨vk_R.warm hW h5, vk_R.warm hW h6, vk_R.warm hW h7⟩, va_Z.moved hW.alike h8, va_Zq.moved hW.alike h9, zs_moved hW.alike h10, zs_moved hW.alike h11, zx_Nw hW h12⟩
  · obtain ⟨h1, h2, h3, h4, h5, h8, h9, h10, h11, h12⟩ := h
    exact ⟨h1.kept hq, h2.kept hq, h3.kept hq, h4.kept hq, h5, h8.kept hq, h9.kept hq, zs_kept h10 hq, zs_kept h11 hq, h12⟩
  · obtain ⟨h1, h2, h3, h4, h5, h8, h9, h10, h11, h12⟩ := h
    exact ⟨h1.narrow hAB, h2.narrow hAB, h3.narrow hAB, h4.narrow hAB, h5, h8.narrow hAB, h9.narrow hAB, zs_narrow h10 hAB, zs_narrow h11 hAB, h12⟩
