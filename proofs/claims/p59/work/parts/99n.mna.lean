/-! A ROW OF ROWS is made: new int[3][200] (names: mx..) -/
def mxo (cA : ClassId) (a n : Nat) : Cell := arrV cA 3 (fun i => if i < n then .ref (a + 1 + i) else .null)
def mxr (cI : ClassId) : Cell := arrV cI 200 (fun _ => .int 0)
def mxs (U : State) (cA cI : ClassId) : Nat → State
  | 0 => U.pushCell (mxo cA U.heap.size 0)
  | n + 1 => ((mxs U cA cI n).pushCell (mxr cI)).setCell U.heap.size (mxo cA U.heap.size (n + 1))
theorem mx3 : (3 : Int32).toNatClampNeg = 3 := by decide
theorem mx200 : (200 : Int32).toNatClampNeg = 200 := by decide
theorem mxo_set (cA : ClassId) (a n : Nat) : (mxo cA a n).setSlot n (.ref (a + 1 + n)) = mxo cA a (n + 1) := by
  unfold mxo
  rw [arrV_store]
  refine congrArg (arrV cA 3) (funext fun i => ?_)
  by_cases e : i = n
  · subst e
    simp [updV]
  · by_cases h : i < n
    · simp [updV, e, h, Nat.lt_succ_of_lt h]
    · simp [updV, e, h, show ¬ i < n + 1 by omega]
theorem mxo_new (cA : ClassId) (a : Nat) : ({ cls := cA, slots := Array.replicate 3 .null, vm := .none } : Cell) = mxo cA a 0 := by
  rw [arrV_new]
  unfold mxo
  exact congrArg (arrV cA 3) (funext fun i => (if_neg (Nat.not_lt_zero i)).symm)
theorem mxo_size (cA : ClassId) (a n : Nat) : (mxo cA a n).slots.size = 3 := arrV_size _ _ _
theorem mxr_size (cI : ClassId) : (mxr cI).slots.size = 200 := arrV_size _ _ _
theorem mxs_is (U : State) (cA cI : ClassId) : ∀ n : Nat, (mxs U cA cI n).heap.size = U.heap.size + 1 + n ∧ (mxs U cA cI n).heap[U.heap.size]? = some (mxo cA U.heap.size n) ∧ (mxs U cA cI n).vm = U.vm ∧ (mxs U cA cI n).slotsUsed = U.slotsUsed + 3 + n * 200
  | 0 => ⟨by simp [mxs], by simp [mxs], rfl, by simp [mxs, mxo_size]⟩
  | n + 1 => by
    obtain ⟨h1, h2, h3, h4⟩ := mxs_is U cA cI n
    have hlt : U.heap.size < (mxs U cA cI n).heap.size := by omega
    have h5 : ((mxs U cA cI n).pushCell (mxr cI)).heap[U.heap.size]? = some (mxo cA U.heap.size n) := by rw [State.heap_pushCell_of_lt (h := hlt)]; exact h2
    refine ⟨?_, State.heap_setCell_self h5, by simp [mxs, h3], ?_⟩
    · simp [mxs, State.setCell, h1]; omega
    · simp [mxs, h4, mxr_size, Nat.succ_mul]; omega
theorem mxs_old (U : State) (cA cI : ClassId) {a : Nat} (ha : a < U.heap.size) : ∀ n : Nat, (mxs U cA cI n).heap[a]? = U.heap[a]?
  | 0 => State.heap_pushCell_of_lt _ _ ha
  | n + 1 => by
    have h1 := (mxs_is U cA cI n).1
    show (((mxs U cA cI n).pushCell (mxr cI)).setCell U.heap.size _).heap[a]? = _
    have hlt : a < (mxs U cA cI n).heap.size := by omega
    rw [State.heap_setCell_other (Nat.ne_of_gt ha), State.heap_pushCell_of_lt (h := hlt)]
    exact mxs_old U cA cI ha n
theorem mxs_row (U : State) (cA cI : ClassId) : ∀ (n i : Nat), i < n → (mxs U cA cI n).heap[U.heap.size + 1 + i]? = some (mxr cI)
  | 0, _, h => absurd h (Nat.not_lt_zero _)
  | n + 1, i, h => by
    have h1 := (mxs_is U cA cI n).1
    show (((mxs U cA cI n).pushCell (mxr cI)).setCell U.heap.size _).heap[U.heap.size + 1 + i]? = _
    rw [State.heap_setCell_other (show U.heap.size ≠ U.heap.size + 1 + i by omega)]
    by_cases e : i = n
    · subst e
      rw [← h1]
      exact State.heap_pushCell_size _ _
    · have hlt : U.heap.size + 1 + i < (mxs U cA cI n).heap.size := by omega
      rw [State.heap_pushCell_of_lt (h := hlt)]
      exact mxs_row U cA cI n i (by omega)
theorem mxs_top (U : State) (f : JFrame) (cA cI : ClassId) : ∀ n : Nat, mxs (U.setTop f) cA cI n = (mxs U cA cI n).setTop f
  | 0 => rfl
  | n + 1 => by simp only [mxs, mxs_top U f cA cI n, State.heap_setTop, State.pushCell_setTop, State.setCell_setTop]
section MXW
variable {E : CtlPost} {e : Env} {d : Bool} {acts : List Action}
theorem mx_one {U : State} {cI cc : ClassId} {kC : Class} (hkc : U.vm.classes[cI]? = some kC) (hkind : kC.kind = .array cc .int) (hl : ¬ 200 > e.platform.arrayLengthLimit) (hh : ¬ 200 * componentBytes .int > e.platform.maxHeapBytes) (h1 : U.heap.size < e.platform.maxCells) (h2 : U.slotsUsed + 200 ≤ e.platform.maxSlots) {Q : Addr → Pre} (hq : ∀ acts', Q U.heap.size d acts' (U.pushCell (mxr cI))) : wp (multianewarray.make cI [(200 : Int32)]) Q E e d acts U := by
  rw [multianewarray.make]
  simp only [wp_bind', Jvm.W.ite, show ¬ ((200 : Int32) < 0) from by decide, if_false, wp_pure', Jvm.W.theClass, hkc, hkind, Option.some.injEq, exists_eq_left', mx200]
  refine Jvm.W.newArray_of (howMany := 200) hkc hkind hl hh h1 h2 rfl (fun acts' => ?_)
  have h3 := hq acts'
  unfold mxr at h3
  rw [← arrV_new] at h3
  exact h3
theorem mx_ref (v : Value) (hv : v = .null ∨ ∃ a, v = .ref a) : fits (.array .int) v = true := by
  rcases hv with rfl | ⟨a, rfl⟩ <;> rfl
theorem mx_make {U : State} {cA cI cc : ClassId} {kA kC : Class} (hkA : U.vm.classes[cA]? = some kA) (hkindA : kA.kind = .array cI (.array .int)) (hkc : U.vm.classes[cI]? = some kC) (hkind : kC.kind = .array cc .int) (hl3 : ¬ 3 > e.platform.arrayLengthLimit) (hh3 : ¬ 3 * componentBytes (.array .int) > e.platform.maxHeapBytes) (hl : ¬ 200 > e.platform.arrayLengthLimit) (hh : ¬ 200 * componentBytes .int > e.platform.maxHeapBytes) (h1 : U.heap.size + 4 ≤ e.platform.maxCells) (h2 : U.slotsUsed + 603 ≤ e.platform.maxSlots) {Q : Addr → Pre} (hq : ∀ d' acts', Q U.heap.size d' acts' (mxs U cA cI 3)) : wp (multianewarray.make cA [(3 : Int32), 200]) Q E e d acts U := by
  rw [multianewarray.make]
  simp only [wp_bind', Jvm.W.ite, show ¬ ((3 : Int32) < 0) from by decide, if_false, wp_pure', Jvm.W.theClass, hkA, hkindA, Option.some.injEq, exists_eq_left', mx3]
  refine Jvm.W.newArray_of (howMany := 3) hkA hkindA hl3 hh3 (by omega) (by omega) rfl (fun acts1 => ?_)
  have e0 : (U.pushCell { cls := cA, slots := Array.replicate 3 .null } : State) = mxs U cA cI 0 := by
    show U.pushCell ({ cls := cA, slots := Array.replicate 3 .null, vm := .none } : Cell) = U.pushCell (mxo cA U.heap.size 0)
    rw [mxo_new cA U.heap.size]
  rw [e0]
  simp only [show ((3 : Int32) == 0) = false from by decide, Bool.false_eq_true, if_false]
  rw [wp_bind', Std.Legacy.Range.forIn_eq_forIn_range']
  have hsz : ([:3] : Std.Legacy.Range).size = 3 := by simp [Std.Legacy.Range.size]
  rw [hsz]
  show wp (forIn (List.range' 0 3 1) PUnit.unit _) _ E e d acts1 _
  refine wp_forIn_inv (fun rest s' => ∃ i, i ≤ 3 ∧ rest = List.range' i (3 - i) ∧ s' = mxs U cA cI i) _ _ ⟨0, Nat.zero_le _, rfl, rfl⟩ ?_ ?_
  · rintro x rest s' d' acts' Q' ⟨i, hi, hl2, rfl⟩ hnext
    have hlt : i < 3 := by
      rcases Nat.lt_or_ge i 3 with h | h
      · exact h
      · rw [show 3 - i = 0 by omega] at hl2; simp at hl2
    rw [show 3 - i = (3 - (i + 1)) + 1 by omega, List.range'_succ] at hl2
    obtain ⟨rfl, hrest⟩ := List.cons.inj hl2
    obtain ⟨f1, f2, f3, f4⟩ := mxs_is U cA cI x
    simp only [wp_bind']
    refine mx_one (by rw [f3]; exact hkc) hkind hl hh (by rw [f1]; omega) (by rw [f4]; omega) (fun acts2 => ?_)
    have hlt0 : U.heap.size < (mxs U cA cI x).heap.size := by omega
    simp only [wp_bind', Jvm.W.writeLoc, wp_pure']
    refine ⟨mxo cA U.heap.size x, by rw [State.heap_pushCell_of_lt (h := hlt0)]; exact f2, (fun h => by cases h), by rw [mxo_size]; exact hlt, ?_, hnext _ _ _ ⟨x + 1, hlt, hrest, ?_⟩⟩
    · show State.fitsSlot _ cA .none x _ = true
      simp [State.fitsSlot, State.slotType?, f3, hkA, hkindA, mx_ref _ (Or.inr ⟨_, rfl⟩)]
    · rw [f1, mxo_set]; rfl
  · rintro s' d' acts' ⟨i, hi, hl2, rfl⟩
    have e : i = 3 := by
      rcases Nat.lt_or_ge i 3 with h | h
      · rw [show 3 - i = (3 - (i + 1)) + 1 by omega, List.range'_succ] at hl2; cases hl2
      · omega
    subst e
    simp only [wp_pure']
    exact hq _ _
end MXW
section MXS
variable {p : Program} {l : Launch} {e : Env} {R : Room} {s : State} {m : MethodId} {args : Array Value} {below : List Frame} {meth : Method} {c : Code} {T : State} {locs : List Loc} {cells slots : Nat}
theorem mx_stand (X : Stand p l e R s m args below meth c T locs cells slots) (cA cI : ClassId) : ∀ n : Nat, ∃ locs1 : List Loc, (∀ q ∈ locs1, q ∈ locs ∨ q.base = T.heap.size) ∧ Stand p l e R s m args below meth c (mxs T cA cI n) locs1 (cells + 1 + n) (slots + 3 + n * 200)
  | 0 => by
    have h := X.pushed (mxo cA T.heap.size 0)
    rw [mxo_size] at h
    exact ⟨locs, fun q hq => Or.inl hq, by simpa [mxs] using h⟩
  | n + 1 => by
    obtain ⟨l1, h1, Xn⟩ := mx_stand X cA cI n
    obtain ⟨f1, f2, f3, f4⟩ := mxs_is T cA cI n
    have hlt0 : T.heap.size < (mxs T cA cI n).heap.size := by omega
    have hcell : ((mxs T cA cI n).pushCell (mxr cI)).heap[T.heap.size]? = some (mxo cA T.heap.size n) := by rw [State.heap_pushCell_of_lt (h := hlt0)]; exact f2
    have h := (Xn.pushed (mxr cI)).stored hcell n (.ref (T.heap.size + 1 + n))
    rw [mxr_size, mxo_set] at h
    refine ⟨l1 ++ [⟨T.heap.size, n⟩], fun q hq => ?_, ?_⟩
    · rcases List.mem_append.mp hq with hq | hq
      · exact h1 q hq
      · rw [List.mem_singleton.mp hq]; exact Or.inr rfl
    · have e1 : cells + 1 + (n + 1) = cells + 1 + n + 1 := by omega
      have e2 : slots + 3 + (n + 1) * 200 = slots + 3 + n * 200 + 200 := by omega
      rw [e1, e2]
      exact h
variable {H : Heap} {Q : State → Prop} {cc : ByteArray} {pc : Nat} {ls : Array Slot} {rest : List Value}
theorem mx_row (hexec : p.tables.exec = Jvm.exec) (hb : c.code = cc) {own : String} {idx : Nat} (hown : s.vm.findClass own = some m.cls) (hclink : (Cond.classLink own idx "[[I").before args s = true) (hover : va_AOA .int s) (harr : (Cond.arrayClass .int).before args s = true) (hdg : decode cc pc = .ok (.multianewarray idx 2, 4)) (hcells : cells + 4 ≤ R.cells) (hslots : slots + 603 ≤ R.slots)
    (kk : ∀ (cA cI : ClassId) (H1 : Heap) (locs1 : List Loc), s.vm.findClass "[[I" = some cA → s.vm.findClass "[I" = some cI → H1.size = H.size + 4 → (∀ q : Nat, q < H.size → H1[q]? = H[q]?) → H1[H.size]? = some (mxo cA H.size 3) → (∀ i : Nat, i < 3 → H1[H.size + 1 + i]? = some (mxr cI)) → (∀ q ∈ locs1, q ∈ locs ∨ q.base = H.size) →
      W p l e R s m args below meth c H1 locs1 (cells + 4) (slots + 603) Q (F0 m (pc + 4) ls (.ref H.size :: rest))) : W p l e R s m args below meth c H locs cells slots Q (F0 m pc ls (.int 200 :: .int 3 :: rest)) := by
  intro T hT X
  subst hT
  subst hb
  have hpl : e.platform.magicAccessors = ({} : Platform).magicAccessors := by rw [X.admits.platform]
  obtain ⟨cI, cA, kA, hcomp, hkA, hkindA, hnameA⟩ := hover
  have hcomp : s.vm.findClass "[I" = some cI := hcomp
  have hnameA : s.vm.findClass "[[I" = some cA := hnameA
  obtain ⟨cI', kC, cc, hcomp', hkC, hkindC⟩ := Cond.arrayClass_spec harr
  have hcomp' : s.vm.findClass "[I" = some cI' := hcomp'
  have ec : cI' = cI := Option.some.inj (hcomp'.symm.trans hcomp)
  subst ec
  obtain ⟨c0, hfc0, hcl⟩ := Cond.classLink_spec hown hclink e.platform hpl
  cases hnameA.symm.trans hfc0
  obtain ⟨hg₁, hwarm₁, hready₁⟩ := State.classEntry (e := e) X.warmed hcl
  generalize T.vm.noted m.cls idx (.cls cA) = vm₁ at hg₁ hwarm₁ hready₁
  have hal : s.vm.Alike vm₁ := hwarm₁.alike
  obtain ⟨kA₁, hkA₁, heA⟩ := hal.2.2 _ _ hkA
  obtain ⟨kC₁, hkC₁, heC⟩ := hal.2.2 _ _ hkC
  have hkindA₁ : kA₁.kind = .array cI' (.array .int) := by rw [heA]; exact hkindA
  have hkindC₁ : kC₁.kind = .array cc .int := by rw [heC]; exact hkindC
  have X₁ := X.noted hwarm₁
  obtain ⟨hr1, hr2⟩ := X.roomAbove hcells hslots
  obtain ⟨locs1, hlocs, XF⟩ := mx_stand X₁ cA cI' 3
  obtain ⟨f1, f2, -, -⟩ := mxs_is (T.setVm vm₁) cA cI' 3
  obtain ⟨t, a1, b1⟩ := kk cA cI' (mxs (T.setVm vm₁) cA cI' 3).heap locs1 hnameA hcomp f1 (fun q hq => mxs_old (T.setVm vm₁) cA cI' hq 3) f2 (fun i hi => mxs_row (T.setVm vm₁) cA cI' 3 i hi) hlocs _ rfl XF
  refine ⟨t, ?_, b1⟩
  have hl3 : ¬ 3 > e.platform.arrayLengthLimit := by rw [Launch.admits_arrayLengthLimit X.admits]; omega
  have hh3 : ¬ 3 * componentBytes (.array .int) > e.platform.maxHeapBytes := by
    rw [Launch.admits_maxHeapBytes X.admits]; show ¬ 3 * 4 > 536870912; omega
  have hl : ¬ 200 > e.platform.arrayLengthLimit := by rw [Launch.admits_arrayLengthLimit X.admits]; omega
  have hh : ¬ 200 * componentBytes .int > e.platform.maxHeapBytes := by
    rw [Launch.admits_maxHeapBytes X.admits]; show ¬ 200 * 4 > 536870912; omega
  jvm_step X.here [hexec, hdg]
  simp only [multianewarray.sem, wp_bind', Jvm.W.resolveClassAt_links (State.method?_setTop (F0 m pc ls (.int 200 :: .int 3 :: rest)) X.here.top) hg₁]
  rw [Jvm.W.popN, if_neg (by decide)]
  refine ⟨F0 m pc ls (.int 200 :: .int 3 :: rest), State.topJava?_setTop' (s := T.setVm vm₁) _ X.here.top, [.int 3, .int 200], rest, rfl, rfl, ?_⟩
  simp only [List.mapM_cons, List.mapM_nil, wp_bind', wp_pure']
  refine mx_make (kA := kA₁) (kC := kC₁) (cI := cI') (cc := cc) hkA₁ hkindA₁ hkC₁ hkindC₁ hl3 hh3 hl hh (by show T.heap.size + 4 ≤ _; omega) (by show T.slotsUsed + 603 ≤ _; omega) (fun d' acts' => ?_)
  have eS : ((T.setTop (F0 m pc ls (.int 200 :: .int 3 :: rest))).setVm vm₁).setTop { F0 m pc ls (.int 200 :: .int 3 :: rest) with stack := rest } = (T.setVm vm₁).setTop (F0 m pc ls rest) := by
    show ((T.setVm vm₁).setTop _).setTop _ = _
    rw [State.setTop_setTop]
  rw [eS, mxs_top]
  simp only [wp_bind', Jvm.W.mark, Jvm.W.pushRef, State.topJava?_setTop' _ XF.here.top, Option.some.injEq, exists_eq_left', State.setTop_setTop, State.heap_setTop]
  intro acts
  simp [jvm, XF.here.top]
  exact a1
end MXS
/-! the same, by names -/
def mxn : List (Nat × Nat) := [(52, 0), (50, 4), (50, 5), (50, 6)]
/-- of what was made on the way, the first and the last days alone are held -/
def mxg (g : qG) : qG := (g.1, g.2.1, g.2.2.1, g.2.2.2.1, [(50, 1), (50, 2)], g.2.2.2.2.2)
def mxb (g : qG) (a : Nat) : qG := (g.1, g.2.1, fun x y => if x = 52 ∧ y = 0 then a else if x = 50 ∧ 4 ≤ y ∧ y ≤ 6 then a + 1 + (y - 4) else g.2.2.1 x y, g.2.2.2.1, [(50, 1), (50, 2)] ++ mxn, g.2.2.2.2.2)
def mxu (σ : qS) : qS := qrw (qrw (qrw σ 50 4 (qzr 200)) 50 5 (qzr 200)) 50 6 (qzr 200)
theorem mxb_e (g : qG) (a x y : Nat) : (mxb g a).2.2.1 x y = if x = 52 ∧ y = 0 then a else if x = 50 ∧ 4 ≤ y ∧ y ≤ 6 then a + 1 + (y - 4) else g.2.2.1 x y := rfl
theorem mxb_0 (g : qG) (a : Nat) : (mxb g a).2.2.1 52 0 = a := by rw [mxb_e, if_pos ⟨rfl, rfl⟩]
theorem mxb_o (g : qG) (a : Nat) {x y : Nat} (h1 : ¬ (x = 52 ∧ y = 0)) (h2 : ¬ (x = 50 ∧ 4 ≤ y ∧ y ≤ 6)) : (mxb g a).2.2.1 x y = g.2.2.1 x y := by rw [mxb_e, if_neg h1, if_neg h2]
theorem mxb_i (g : qG) (a : Nat) {i : Nat} (hi : i < 3) : (mxb g a).2.2.1 50 (4 + i) = a + 1 + i := by
  rw [mxb_e, if_neg (by omega), if_pos (by omega)]
  omega
theorem mxg_cv (g : qG) : qcv (mxg g) = qcv g := by
  funext v
  cases v <;> rfl
theorem mxg_ls {g : qG} {ls : Array Slot} {nL : Nat} {L : List (Option qA)} (h1 : qLs g ls nL L) : qLs (mxg g) ls nL L := by
  refine ⟨h1.1, h1.2.1, fun q hq => ?_⟩
  obtain ⟨i, v, e1, e2, e3⟩ := qlc_mem (mxg g) L 0 q hq
  rw [Nat.zero_add] at e1
  rw [e1, e3, mxg_cv]
  exact h1.at e2
theorem mxu_ne (σ : qS) {a b : Nat} (h : ¬ (a = 50 ∧ 4 ≤ b ∧ b ≤ 6)) : mxu σ a b = σ a b := by
  unfold mxu
  rw [qrw_ne _ _ (by omega), qrw_ne _ _ (by omega), qrw_ne _ _ (by omega)]
theorem mxu_at (σ : qS) {b : Nat} (h1 : 4 ≤ b) (h2 : b ≤ 6) : mxu σ 50 b = qzr 200 := by
  unfold mxu
  rcases (show b = 4 ∨ b = 5 ∨ b = 6 by omega) with rfl | rfl | rfl
  · rw [qrw_ne _ _ (by omega), qrw_ne _ _ (by omega), qrw_at]
  · rw [qrw_ne _ _ (by omega), qrw_at]
  · rw [qrw_at]
theorem mx_qH {g : qG} {σ : qS} {H : Heap} (h1 : (50, 1) ∈ qX9 g) (h2 : (50, 2) ∈ qX9 g) (h : qH g σ H) : qH (mxg g) σ H := by
  have P := qHp.of h
  obtain ⟨p1, p2, p3, p4⟩ := P
  have hin : ∀ q ∈ qcl ++ qX9 (mxg g), q ∈ qcl ++ qX9 g := fun q hq => by
    rcases List.mem_append.mp hq with hq | hq
    · exact List.mem_append_left _ hq
    · have hq : q ∈ [(50, 1), (50, 2)] := hq
      simp only [List.mem_cons, List.not_mem_nil, or_false] at hq
      rcases hq with rfl | rfl
      · exact List.mem_append_right _ h1
      · exact List.mem_append_right _ h2
  have E : qEv [] (mxg g) g := ⟨rfl, rfl, rfl, rfl, fun _ _ _ => rfl, fun _ _ _ => rfl, fun a b _ hx => by
    have hx : (a, b) ∈ [((50 : Nat), (1 : Nat)), (50, 2)] := hx
    simp only [List.mem_cons, List.not_mem_nil, or_false] at hx
    rcases hx with hx | hx
    · rw [hx]; exact h1
    · rw [hx]; exact h2⟩
  refine qHp.to ⟨fun q hq => ?_, fun q hq q' hq' e => p2 q (hin q hq) q' (hin q' hq') e, fun q hq => p3 q (hin q hq), ?_⟩ h.2.2
  · rw [← qent_ev (g := mxg g) (g1 := g) E (fun _ _ => qnd_n)]
    exact p1 q (hin q hq)
  refine List.nodup_append.mpr ⟨(List.nodup_append.mp p4).1, (show [((50 : Nat), (1 : Nat)), (50, 2)].Nodup by decide), fun x hx y hy e => ?_⟩
  have h3 := qcl_lo hx
  have hy : y ∈ [(50, 1), (50, 2)] := hy
  simp only [List.mem_cons, List.not_mem_nil, or_false] at hy
  rcases hy with rfl | rfl <;> (rw [e] at h3; simp at h3)
theorem mxb_ev (g : qG) (a : Nat) : qEv mxn (mxg g) (mxb g a) := by
  refine ⟨rfl, rfl, rfl, rfl, fun x y hx => mxb_o g a (by omega) (by omega), fun x y hd => ?_, fun x y _ hx => List.mem_append_left _ hx⟩
  obtain ⟨d1, d2, d3, d4, -⟩ := hd
  simp only at d1 d2 d3 d4
  exact mxb_o g a d1 (by omega)
theorem mx_bind {g : qG} {σ : qS} {H H1 : Heap} {s : State} {cA cI : ClassId} (hK : va_K g.1 qcls (qtys g) s) (h1 : (50, 1) ∈ qX9 g) (h2 : (50, 2) ∈ qX9 g) (h : qH g σ H) (hA : ∀ q, H.size ≤ q → qAf g q) (fA : s.vm.findClass "[[I" = some cA) (fI : s.vm.findClass "[I" = some cI) (hold : ∀ q : Nat, q < H.size → H1[q]? = H[q]?) (ho : H1[H.size]? = some (mxo cA H.size 3)) (hr : ∀ i : Nat, i < 3 → H1[H.size + 1 + i]? = some (mxr cI)) : qH (mxb g H.size) (mxu σ) H1 := by
  have hg := mx_qH h1 h2 h
  obtain ⟨p1, p2, p3, p4⟩ := qHp.of hg
  have E := mxb_ev g H.size
  have eI : cI = g.2.1 0 := by
    have e1 : s.vm.findClass "[I" = some (g.2.1 0) := (hK.2 0 _ (show (qtys g)[0]? = some (g.2.1 0, .int) from rfl)).2
    exact Option.some.inj (fI.symm.trans e1)
  have eA : cA = g.2.1 5 := by
    have e1 : s.vm.findClass "[[I" = some (g.2.1 5) := (hK.2 5 _ (show (qtys g)[5]? = some (g.2.1 5, .array .int) from rfl)).2
    exact Option.some.inj (fA.symm.trans e1)
  subst eI
  subst eA
  have hlt : ∀ q ∈ qcl ++ [((50 : Nat), (1 : Nat)), (50, 2)], g.2.2.1 q.1 q.2 < H.size := fun q hq => (p1 q hq).lt
  have hn : ∀ q ∈ qcl ++ [((50 : Nat), (1 : Nat)), (50, 2)], ¬ (q.1 = 52 ∧ q.2 = 0) ∧ ¬ (q.1 = 50 ∧ 4 ≤ q.2 ∧ q.2 ≤ 6) := fun q hq => by
    rcases List.mem_append.mp hq with hq | hq
    · have := qcl_lo hq
      omega
    · simp only [List.mem_cons, List.not_mem_nil, or_false] at hq
      rcases hq with rfl | rfl <;> simp
  have had : ∀ q ∈ qcl ++ [((50 : Nat), (1 : Nat)), (50, 2)], (mxb g H.size).2.2.1 q.1 q.2 = g.2.2.1 q.1 q.2 := fun q hq => mxb_o g H.size (hn q hq).1 (hn q hq).2
  have a0 := mxb_0 g H.size
  have ai : ∀ i : Nat, i < 3 → (mxb g H.size).2.2.1 50 (4 + i) = H.size + 1 + i := fun i hi => mxb_i g H.size hi
  have hsp : qcl ++ qX9 (mxb g H.size) = (qcl ++ [((50 : Nat), (1 : Nat)), (50, 2)]) ++ mxn := (List.append_assoc _ _ _).symm
  have hm : ∀ q ∈ mxn, q = (52, 0) ∨ ∃ i, i < 3 ∧ q = (50, 4 + i) := fun q hq => by
    simp only [mxn, List.mem_cons, List.not_mem_nil, or_false] at hq
    rcases hq with rfl | rfl | rfl | rfl
    · exact Or.inl rfl
    · exact Or.inr ⟨0, by decide, rfl⟩
    · exact Or.inr ⟨1, by decide, rfl⟩
    · exact Or.inr ⟨2, by decide, rfl⟩
  have hge : ∀ q ∈ mxn, H.size ≤ (mxb g H.size).2.2.1 q.1 q.2 := fun q hq => by
    rcases hm q hq with rfl | ⟨i, hi, rfl⟩
    · exact Nat.le_of_eq a0.symm
    · rw [ai i hi]; omega
  refine qHp.to ⟨fun q hq => ?_, fun q hq q' hq' e => ?_, fun q hq => ?_, ?_⟩ (h.2.2.put (fun a b hab => mxu_ne σ (by omega)))
  · rw [hsp] at hq
    rcases List.mem_append.mp hq with hq | hq
    · rw [had q hq, mxu_ne σ (hn q hq).2, qent_ev E (fun x hx => ?_)]
      · exact (p1 q hq).kept (hold _ (hlt q hq))
      · have h52 : q.1 ≠ 52 ∧ q.1 ≠ 60 ∧ q.1 ≠ 62 := by
          rcases List.mem_append.mp hq with hq | hq
          · have := qcl_lo hq
            omega
          · simp only [List.mem_cons, List.not_mem_nil, or_false] at hq
            rcases hq with rfl | rfl <;> simp
        unfold qdep at hx
        rw [if_neg h52.1, if_neg h52.2.1, if_neg h52.2.2] at hx
        cases hx
    · rcases hm q hq with rfl | ⟨i, hi, rfl⟩
      · rw [a0, qent9 rfl]
        show H1[H.size]? = some (vp_cell (g.2.1 5) _)
        rw [vp_cell_q, ho]
        unfold mxo
        refine congrArg some (arrV_same (fun j hj => ?_))
        rw [if_pos hj]
        show Value.ref (H.size + 1 + j) = va_rf (if j < 3 then some ((mxb g H.size).2.2.1 50 (4 + j)) else none)
        rw [if_pos hj, ai j hj]
        rfl
      · rw [ai i hi, qent7 rfl, mxu_at σ (by omega) (by omega)]
        show H1[H.size + 1 + i]? = some (vp_cell (g.2.1 0) _)
        rw [vp_cell_i, hr i hi, qzr_len, mx200]
        unfold mxr
        refine congrArg some (arrV_same (fun j hj => ?_))
        show Value.int 0 = Value.int (if j = qLI then 200 else 0)
        rw [if_neg (by show ¬ j = 2147483648; omega)]
  · rw [hsp] at hq hq'
    rcases List.mem_append.mp hq with hq | hq
    · rcases List.mem_append.mp hq' with hq' | hq'
      · rw [had q hq, had q' hq'] at e
        exact p2 q hq q' hq' e
      · have := hlt q hq
        have := hge q' hq'
        rw [had q hq] at e
        omega
    · rcases List.mem_append.mp hq' with hq' | hq'
      · have := hlt q' hq'
        have := hge q hq
        rw [had q' hq'] at e
        omega
      · rcases hm q hq with rfl | ⟨i, hi, rfl⟩
        · rcases hm q' hq' with rfl | ⟨i', hi', rfl⟩
          · rfl
          · rw [a0, ai i' hi'] at e
            omega
        · rcases hm q' hq' with rfl | ⟨i', hi', rfl⟩
          · rw [a0, ai i hi] at e
            omega
          · rw [ai i hi, ai i' hi'] at e
            rw [show i = i' by omega]
  · rw [hsp] at hq
    rcases List.mem_append.mp hq with hq | hq
    · rw [had q hq]
      exact p3 q hq
    · exact hA _ (hge q hq)
  · rw [hsp]
    refine List.nodup_append.mpr ⟨p4, by decide, fun x hx y hy e => ?_⟩
    subst e
    have h3 := hn x hx
    rcases hm x hy with rfl | ⟨i, hi, rfl⟩
    · exact h3.1 ⟨rfl, rfl⟩
    · exact h3.2 ⟨rfl, by omega, by omega⟩
section MXQ
variable {p : Program} {l : Launch} {e : Env} {R : Room} {s : State} {m : MethodId} {args : Array Value} {below : List Frame} {meth : Method} {c : Code} {g : qG} {nL : Nat} {Qf : qO → State → Prop} {o : Option qO} {cb sb pc : Nat} {L : List (Option qA)} {st : List qA} {σ : qS} {cc : ByteArray} {own : String}
theorem qg_mna (C : qC p l s m meth c cc nL own g) {idx : Nat} (hw : Cond.classLink own idx "[[I" ∈ qWA ∧ Cond.arrayClass .int ∈ qWA) (h12 : (50, 1) ∈ qX9 g ∧ (50, 2) ∈ qX9 g) (hL : qfL mxn L) (hS : qfS mxn st) (d : decode cc pc = .ok (.multianewarray idx 2, 4))
    (k : ∀ g1 : qG, qC p l s m meth c cc nL own g1 → g1.2.2.2.1 = g.2.2.2.1 → g1.2.2.2.2.2 = g.2.2.2.2.2 → qLv g1 [(50, 1), (50, 2), (52, 0), (50, 4), (50, 5), (50, 6)] → qV p l e R s m args below meth c g1 nL Qf o cb sb (pc + 4) L (qR 52 0 :: st) (mxu σ)) : qV p l e R s m args below meth c g nL Qf o (cb + 4) (sb + 603) pc L (qI 200 :: qI 3 :: st) σ := by
  intro r hr ls H locs cells slots h1 h2 h3 h4 h5
  have C0 := C
  obtain ⟨hx0, hb, hml, hown, hE, hst, hlk⟩ := C
  have hc4 : cells + 4 ≤ R.cells := Nat.le_trans (Nat.add_le_add_left (Nat.le_add_left 4 cb) cells) h4
  have hs4 : slots + 603 ≤ R.slots := Nat.le_trans (Nat.add_le_add_left (Nat.le_add_left 603 sb) slots) h5
  show W p l e R s m args below meth c H locs cells slots (Qf r) (F0 m pc ls (.int 200 :: .int 3 :: st.map (qcv g)))
  refine mx_row hx0 hb hown (qword (a := args) hE.1 hw.1) hE.1.2.2.2.2.2 (qword (a := args) hE.1 hw.2) d hc4 hs4 (fun cA cI H1 locs1 fA fI hsz hold ho hrw hlocs => ?_)
  have E := mxb_ev g H.size
  have Cg : qC p l s m meth c cc nL own (mxg g) := ⟨hx0, hb, hml, hown, hE, hst, hlk⟩
  have eA : qAf (mxb g H.size) = qAf g := E.Af
  have hA : ∀ q, H.size ≤ q → qAf g q := fun q hq => qAf_new C0 q (Nat.le_trans h3.1 hq)
  have hS1 : va_S (qAf g) s.heap H1 locs1 := ⟨by have := h3.1; omega, fun q hq hn => (hold q (Nat.lt_of_lt_of_le hq h3.1)).trans (h3.2.1 q hq hn), fun q hq => by
    rcases hlocs q hq with h | h
    · exact h3.2.2 q h
    · rw [h]; exact hA _ (Nat.le_refl _)⟩
  have K1 := k (mxb g H.size) (E.C Cg) rfl rfl (fun q hq => hq) r hr ls H1 locs1 (cells + 4) (slots + 603) (E.Ls hL (mxg_ls h1)) (mx_bind hE.1.1 h12.1 h12.2 h2 hA fA fI hold ho hrw) (by rw [eA]; exact hS1) (by rw [Nat.add_assoc, Nat.add_comm 4 cb]; exact h4) (by rw [Nat.add_assoc, Nat.add_comm 603 sb]; exact h5)
  rw [List.map_cons, E.map hS, mxg_cv] at K1
  have eq1 : qcv (mxb g H.size) (qR 52 0) = Value.ref H.size := congrArg Value.ref (mxb_0 g H.size)
  rw [eq1] at K1
  exact K1
end MXQ
