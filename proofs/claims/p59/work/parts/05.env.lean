/-! THE ENVIRONMENT of a run: tables' words and what never changes (names: q..) -/
def qthr : List (Nat × String) := [(398, "no such task"), (400, "an argument is out of its range"), (402, "there is no room for another task"), (406, "a task would depend on itself"), (390, "no such resource"), (185, "no such position"), (208, "there are no tasks"), (392, "the day is negative"), (394, "the task has no baseline start"), (244, "there is no baseline"), (388, "no such rank"), (286, "no such character")]
/-- the law's texts: their places in its pool, which they are -/
def qlst : List (Nat × String × Nat) := [(222, "", 0), (231, ",", 1), (281, ":", 2), (283, "x", 3), (285, "r", 4), (287, "@", 5), (289, "!", 6), (291, "<", 7)]
abbrev qIOE : String := "java/lang/IndexOutOfBoundsException"
abbrev qIAE : String := "java/lang/IllegalArgumentException"
abbrev qISE : String := "java/lang/IllegalStateException"
abbrev qUOE : String := "java/lang/UnsupportedOperationException"
abbrev qNSE : String := "java/util/NoSuchElementException"
abbrev qARE : String := "java/lang/ArithmeticException"
def qncs : List (String × String) := [(qISE, qIAE), (qIAE, qIOE), (qUOE, qIOE), (qUOE, qIAE), (qNSE, qIOE), (qARE, qIAE), (qISE, qIOE), (qUOE, qISE), (qNSE, qIAE), (qIAE, qISE), (qIAE, qUOE), (qISE, qUOE), (qIAE, qNSE)]
def qkS (g : qG) (U : State) (H : Heap) : Prop := ∀ i : Nat, i < 8 → va_O "java/lang/String" (g.2.2.1 42 i) (qAf g) U H ∧ va_OF "java/lang/String" "coder" "B" (.int 0) (g.2.2.1 42 i) (qAf g) U H ∧ va_OF "java/lang/String" "value" "[B" (.ref (g.2.2.1 44 i)) (g.2.2.1 42 i) (qAf g) U H ∧ va_T .byte (g.2.2.1 44 i) (qsl i) (fun j => .int (qsc i j)) (qAf g) U H
/-- the digits of numbers below a hundred -/
def qkG (g : qG) (U : State) (H : Heap) : Prop := va_Z "java/lang/Integer" "DigitOnes" "[B" (.ref (g.2.2.1 46 0)) (qAf g) U H ∧ va_Z "java/lang/Integer" "DigitTens" "[B" (.ref (g.2.2.1 46 1)) (qAf g) U H ∧ ∀ i : Nat, i < 2 → va_T .byte (g.2.2.1 46 i) 100 (fun j => .int (qdig i j)) (qAf g) U H
def qkC (g : qG) (U : State) (H : Heap) : Prop := va_Z "java/lang/String" "COMPACT_STRINGS" "Z" (.int 1) (qAf g) U H ∧ va_Zq "jdk/internal/util/Preconditions" "SIOOBE_FORMATTER" "Ljava/util/function/BiFunction;" (qAf g) U H
def qkX (g : qG) (U : State) (H : Heap) : Prop := vx_Zq Bundle.tN "UNASSIGNED_STACK" Bundle.steD (qAf g) U H ∧ vx_Zq Bundle.tN "SUPPRESSED_SENTINEL" Bundle.listD (qAf g) U H
/-- the script -/
def qkL (g : qG) (U : State) (H : Heap) : Prop := va_T .int (g.2.2.1 45 0) (qLL g) (fun j => .int (qxs g j)) (qAf g) U H
def qK (g : qG) (U : State) (H : Heap) : Prop := qkS g U H ∧ qkG g U H ∧ qkC g U H ∧ qkX g U H ∧ qkL g U H
/-- of an array of arrays -/
def va_AOA (ty : FieldType) (U : State) : Prop := ∃ (comp c : ClassId) (k : Class), U.vm.findClass (FieldType.array ty).toString = some comp ∧ U.vm.classes[c]? = some k ∧ k.kind = .array comp (.array ty) ∧ U.vm.findClass ("[" ++ (FieldType.array ty).toString) = some c
theorem va_AOA.moved {ty : FieldType} {u U : State} (hvm : u.vm.Alike U.vm) (h : va_AOA ty u) : va_AOA ty U := by
  obtain ⟨comp, c, k, h1, h2, h3, h4⟩ := h
  obtain ⟨k', hk', he⟩ := hvm.2.2 _ _ h2
  exact ⟨comp, c, k', by rw [hvm.findClass]; exact h1, hk', by rw [he]; exact h3, by rw [hvm.findClass]; exact h4⟩
/-- of the tables alone -/
def qKt (g : qG) (U : State) : Prop := va_K g.1 qcls (qtys g) U ∧ (∀ w ∈ qWA, w.before #[] U = true) ∧ (∀ q ∈ qlst, vk_R RL q.1 q.2.1 (g.2.2.1 42 q.2.2) U) ∧ (∀ q ∈ qthr, ∃ a : Nat, vk_R RX7 q.1 q.2 a U) ∧ (∀ q ∈ qncs, va_Nc q.1 q.2 U) ∧ va_AOA .int U
def qE (g : qG) (U : State) (H : Heap) : Prop := qKt g U ∧ g.2.2.2.1 ≤ H.size ∧ qK g U H
theorem va_Nc_warm {C T : String} {s U : State} (hvm : s.vm.Alike U.vm) (h : va_Nc C T s) : va_Nc C T U := by
  obtain ⟨c, t, h1, h2, h3⟩ := h
  exact ⟨c, t, by rw [hvm.findClass]; exact h1, by rw [hvm.findClass]; exact h2, by rw [hvm.assignable]; exact h3⟩
theorem qKt.warm {g : qG} {s U : State} (hW : s.WarmedH U.vm) (h : qKt g s) : qKt g U := by
  obtain ⟨h1, h2, h3, h4, h5, h6⟩ := h
  refine ⟨va_K.moved hW.alike h1, fun w hw => qok_warm (List.mem_filter.mp hw).2 hW (h2 w hw), fun q hq => vk_R.warm hW (h3 q hq), fun q hq => ?_, fun q hq => va_Nc_warm hW.alike (h5 q hq), h6.moved hW.alike⟩
  obtain ⟨a, ha⟩ := h4 q hq
  exact ⟨a, vk_R.warm hW ha⟩
theorem qK.moved {g : qG} {u U : State} {H : Heap} (hvm : u.vm.Alike U.vm) (h : qK g u H) : qK g U H := by
  obtain ⟨h6, ⟨d1, d2, d3⟩, h9, ⟨h10, h11⟩, h12⟩ := h
  exact ⟨fun i hi => ⟨va_O.moved hvm (h6 i hi).1, va_OF.moved hvm (h6 i hi).2.1, va_OF.moved hvm (h6 i hi).2.2.1, va_T.moved hvm (h6 i hi).2.2.2⟩,
    ⟨va_Z.moved hvm d1, va_Z.moved hvm d2, fun i hi => va_T.moved hvm (d3 i hi)⟩, ⟨va_Z.moved hvm h9.1, va_Zq.moved hvm h9.2⟩, ⟨vx_Zq.moved hvm h10, vx_Zq.moved hvm h11⟩, va_T.moved hvm h12⟩
theorem qK.kept {g : qG} {U : State} {H H1 : Heap} (h : qK g U H) (hq : ∀ a : Nat, a < H.size → ¬ qAf g a → H1[a]? = H[a]?) : qK g U H1 := by
  obtain ⟨h6, ⟨d1, d2, d3⟩, h9, ⟨h10, h11⟩, h12⟩ := h
  exact ⟨fun i hi => ⟨(h6 i hi).1.kept hq, (h6 i hi).2.1.kept hq, (h6 i hi).2.2.1.kept hq, (h6 i hi).2.2.2.kept hq⟩,
    ⟨d1.kept hq, d2.kept hq, fun i hi => (d3 i hi).kept hq⟩, ⟨h9.1.kept hq, h9.2.kept hq⟩, ⟨h10.kept hq, h11.kept hq⟩, h12.kept hq⟩
/-- at a callee's start -/
theorem qE.go {g : qG} {s U : State} {H : Heap} {locs : List Loc} (h : qE g s s.heap) (hW : s.WarmedH U.vm) (hS : va_S (qAf g) s.heap H locs) (hU : U.heap = H) : qE g U U.heap := by
  obtain ⟨h1, h2, h3⟩ := h
  rw [hU]
  exact ⟨h1.warm hW, Nat.le_trans h2 hS.1, (h3.kept hS.2.1).moved hW.alike⟩
theorem qKt.same {g : qG} {u U : State} (hv : U.vm = u.vm) (h : qKt g u) : qKt g U := h.warm (by rw [hv]; exact State.WarmedH.refl u)
theorem qE.blind {g : qG} {U : State} {a : Array Value} {g0 : JFrame} {mk : MethodId} (h : qE g U U.heap) : qE g (U.calling g0 mk a) (U.calling g0 mk a).heap := ⟨qKt.same (u := U) rfl h.1, h.2.1, qK.moved (u := U) (Vm.Alike.refl U.vm) h.2.2⟩
/-- a word for any arguments -/
theorem qword {g : qG} {s : State} (h : qKt g s) {w : Cond} (hw : w ∈ qWA) {a : Array Value} : w.before a s = true := qok_warm (List.mem_filter.mp hw).2 (State.WarmedH.refl s) (h.2.1 w hw)
theorem qwords {g : qG} {s : State} (h : qKt g s) {a : Array Value} : ∀ w ∈ qWA, w.before a s = true := fun w hw => qword h hw
