/-! V: the machine at a place of a method, over the abstract cells; a row an instruction -/
def qlc (g : qG) : Nat → List (Option qA) → List (Nat × Value)
  | _, [] => []
  | i, none :: t => qlc g (i + 1) t
  | i, some v :: t => (i, qcv g v) :: qlc g (i + 1) t
theorem qlc_get (g : qG) : ∀ (L : List (Option qA)) (n i : Nat) (v : qA), L[i]? = some (some v) → (n + i, qcv g v) ∈ qlc g n L
  | [], _, _, _, h => by simp at h
  | a :: t, n, 0, v, h => by simp at h; subst h; simp [qlc]
  | a :: t, n, i + 1, v, h => by
    simp only [List.getElem?_cons_succ] at h
    have h1 := qlc_get g t (n + 1) i v h
    rw [show n + 1 + i = n + (i + 1) by omega] at h1
    cases a with
    | none => exact h1
    | some a => exact List.mem_cons_of_mem _ h1
theorem qlc_mem (g : qG) : ∀ (L : List (Option qA)) (n : Nat) (q : Nat × Value), q ∈ qlc g n L → ∃ (i : Nat) (v : qA), q.1 = n + i ∧ L[i]? = some (some v) ∧ q.2 = qcv g v
  | [], _, _, h => by simp [qlc] at h
  | none :: t, n, q, h => by
    obtain ⟨i, v, h1, h2, h3⟩ := qlc_mem g t (n + 1) q h
    exact ⟨i + 1, v, by omega, by simpa using h2, h3⟩
  | some a :: t, n, q, h => by
    rcases List.mem_cons.mp h with rfl | h
    · exact ⟨0, a, by simp, by simp, rfl⟩
    · obtain ⟨i, v, h1, h2, h3⟩ := qlc_mem g t (n + 1) q h
      exact ⟨i + 1, v, by omega, by simpa using h2, h3⟩
/-- the locals hold what the list says -/
def qLs (g : qG) (ls : Array Slot) (nL : Nat) (L : List (Option qA)) : Prop := lv_has ls nL (qlc g 0 L)
theorem qLs.at {g : qG} {ls : Array Slot} {nL i : Nat} {L : List (Option qA)} {v : qA} (h : qLs g ls nL L) (hi : L[i]? = some (some v)) : ls[i]? = some (.val (qcv g v)) := by
  have h1 := qlc_get g L 0 i v hi
  rw [Nat.zero_add] at h1
  exact h.2.2 _ h1
def qmask : List (Option qA) → List Bool → List (Option qA)
  | [], _ => []
  | a :: t, [] => a :: t
  | a :: t, true :: m => a :: qmask t m
  | _ :: t, false :: m => none :: qmask t m
theorem qmask_get : ∀ (L : List (Option qA)) (m : List Bool) (i : Nat) (v : qA), (qmask L m)[i]? = some (some v) → L[i]? = some (some v)
  | [], _, _, _, h => by simp [qmask] at h
  | a :: t, [], _, _, h => h
  | a :: t, true :: m, 0, v, h => h
  | a :: t, true :: m, i + 1, v, h => by simp only [qmask, List.getElem?_cons_succ] at h ⊢; exact qmask_get t m i v h
  | a :: t, false :: m, 0, v, h => by simp [qmask] at h
  | a :: t, false :: m, i + 1, v, h => by simp only [qmask, List.getElem?_cons_succ] at h ⊢; exact qmask_get t m i v h
theorem qLs.weak {g : qG} {ls : Array Slot} {nL : Nat} {L L' : List (Option qA)} (h : qLs g ls nL L) (hw : ∀ (i : Nat) (v : qA), L'[i]? = some (some v) → L[i]? = some (some v)) : qLs g ls nL L' := by
  refine ⟨h.1, h.2.1, fun q hq => ?_⟩
  obtain ⟨i, v, h1, h2, h3⟩ := qlc_mem g L' 0 q hq
  rw [h1, h3, Nat.zero_add]
  exact h.at (hw i v h2)
def qcat (v : qA) : Nat := match v with
  | .inl v => v.category
  | .inr _ => 1
theorem qcat_cv (g : qG) (v : qA) : (qcv g v).category = qcat v := by cases v <;> rfl
/-- a store at place i: nothing long stands one place ahead -/
def qok1 (L : List (Option qA)) (i : Nat) : Bool := match i with
  | 0 => true
  | i + 1 => match L[i]? with
    | some (some v) => qcat v == 1
    | _ => true
theorem qLs.store {g : qG} {ls' : Array Slot} {nL i : Nat} {L : List (Option qA)} {v : qA} {lv' : List (Nat × Value)} (hk : qok1 L i = true) (hl : (i, qcv g v) :: (qlc g 0 L).filter (fun q => !(q.1 == i) && !(q.1 + 1 == i && q.2.category == 2)) = lv') (h : lv_has ls' nL lv') : qLs g ls' nL (L.set i (some v)) := by
  refine ⟨h.1, h.2.1, fun q hq => ?_⟩
  refine h.2.2 q ?_
  rw [← hl]
  obtain ⟨j, w, h1, h2, h3⟩ := qlc_mem g _ 0 q hq
  rw [Nat.zero_add] at h1
  by_cases hj : j = i
  · subst hj
    have hlt : j < L.length := by
      have := (List.getElem?_eq_some_iff.mp h2).1
      simpa using this
    rw [List.getElem?_set_self hlt] at h2
    cases h2
    have : q = (j, qcv g v) := by cases q; simp_all
    rw [this]; exact List.mem_cons_self
  · rw [List.getElem?_set_ne (Ne.symm hj)] at h2
    refine List.mem_cons_of_mem _ (List.mem_filter.mpr ⟨?_, ?_⟩)
    · have h4 := qlc_get g L 0 j w h2
      rw [Nat.zero_add] at h4
      have : q = (j, qcv g w) := by cases q; simp_all
      rw [this]; exact h4
    · rw [h1, h3, qcat_cv]
      have e1 : (j == i) = false := by simp [hj]
      rw [e1]
      by_cases hj2 : j + 1 = i
      · subst hj2
        simp only [qok1, h2] at hk
        have : qcat w = 1 := by simpa using hk
        simp [this]
      · simp [hj2]
section QV
/-- V: whatever the outcome r that o names, the machine comes from here to an end that Qf r allows; at most cb cells of sb slots are made on the way -/
def qV (p : Program) (l : Launch) (e : Env) (R : Room) (s : State) (m : MethodId) (args : Array Value) (below : List Frame) (meth : Method) (c : Code) (g : qG) (nL : Nat) (Qf : qO → State → Prop) (o : Option qO) (cb sb pc : Nat) (L : List (Option qA)) (st : List qA) (σ : qS) : Prop :=
  ∀ r : qO, o = some r → ∀ (ls : Array Slot) (H : Heap) (locs : List Loc) (cells slots : Nat), qLs g ls nL L → qH g σ H → va_S (qAf g) s.heap H locs → cells + cb ≤ R.cells → slots + sb ≤ R.slots → W p l e R s m args below meth c H locs cells slots (Qf r) (F0 m pc ls (st.map (qcv g)))
def qC (p : Program) (l : Launch) (s : State) (m : MethodId) (meth : Method) (c : Code) (cc : ByteArray) (nL : Nat) (own : String) (g : qG) : Prop :=
  p.tables.exec = Jvm.exec ∧ c.code = cc ∧ c.maxLocals = nL ∧ s.vm.findClass own = some m.cls ∧ qE g s s.heap ∧ l.stackTraces = false ∧ meth.locks = false
variable {p : Program} {l : Launch} {e : Env} {R : Room} {s : State} {m : MethodId} {args : Array Value} {below : List Frame} {meth : Method} {c : Code} {g : qG} {nL : Nat} {Qf : qO → State → Prop} {o : Option qO} {cb sb pc : Nat} {L : List (Option qA)} {st : List qA} {σ : qS} {cc : ByteArray} {own : String}
theorem qV.weak (m' : List Bool) (k : qV p l e R s m args below meth c g nL Qf o cb sb pc (qmask L m') st σ) : qV p l e R s m args below meth c g nL Qf o cb sb pc L st σ :=
  fun r hr ls H locs cells slots h1 h2 h3 h4 h5 => k r hr ls H locs cells slots (h1.weak (fun i v h => qmask_get L m' i v h)) h2 h3 h4 h5
theorem qV.less {cb' sb' : Nat} (k : qV p l e R s m args below meth c g nL Qf o cb' sb' pc L st σ) (h1 : cb' ≤ cb) (h2 : sb' ≤ sb) : qV p l e R s m args below meth c g nL Qf o cb sb pc L st σ :=
  fun r hr ls H locs cells slots g1 g2 g3 g4 g5 => k r hr ls H locs cells slots g1 g2 g3 (by omega) (by omega)
theorem qV.no : qV p l e R s m args below meth c g nL Qf none cb sb pc L st σ := fun r hr => by cases hr
theorem qv_iload (C : qC p l s m meth c cc nL own g) {i : Nat} {x : Int32} (d : decode cc pc = .ok (.iload i, 2)) (hl : L[i]? = some (some (qI x))) (k : qV p l e R s m args below meth c g nL Qf o cb sb (pc + 2) L (qI x :: st) σ) : qV p l e R s m args below meth c g nL Qf o cb sb pc L st σ :=
  fun r hr ls H locs cells slots h1 h2 h3 h4 h5 => lv_iload C.1 C.2.1 d (h1.at hl) (k r hr ls H locs cells slots h1 h2 h3 h4 h5)
theorem qv_iload_n (C : qC p l s m meth c cc nL own g) {k0 : Fin 4} {x : Int32} (d : decode cc pc = .ok (.iload_n k0, 1)) (hl : L[(k0 : Nat)]? = some (some (qI x))) (k : qV p l e R s m args below meth c g nL Qf o cb sb (pc + 1) L (qI x :: st) σ) : qV p l e R s m args below meth c g nL Qf o cb sb pc L st σ :=
  fun r hr ls H locs cells slots h1 h2 h3 h4 h5 => lv_iload_n C.1 C.2.1 d rfl (h1.at hl) (k r hr ls H locs cells slots h1 h2 h3 h4 h5)
theorem qv_aload (C : qC p l s m meth c cc nL own g) {i : Nat} {a : Nat × Nat} (d : decode cc pc = .ok (.aload i, 2)) (hl : L[i]? = some (some (.inr a))) (k : qV p l e R s m args below meth c g nL Qf o cb sb (pc + 2) L (.inr a :: st) σ) : qV p l e R s m args below meth c g nL Qf o cb sb pc L st σ :=
  fun r hr ls H locs cells slots h1 h2 h3 h4 h5 => lv_aload C.1 C.2.1 d (h1.at hl) (k r hr ls H locs cells slots h1 h2 h3 h4 h5)
theorem qv_aload_n (C : qC p l s m meth c cc nL own g) {k0 : Fin 4} {a : Nat × Nat} (d : decode cc pc = .ok (.aload_n k0, 1)) (hl : L[(k0 : Nat)]? = some (some (.inr a))) (k : qV p l e R s m args below meth c g nL Qf o cb sb (pc + 1) L (.inr a :: st) σ) : qV p l e R s m args below meth c g nL Qf o cb sb pc L st σ :=
  fun r hr ls H locs cells slots h1 h2 h3 h4 h5 => lv_aload_n C.1 C.2.1 d rfl (h1.at hl) (k r hr ls H locs cells slots h1 h2 h3 h4 h5)
theorem qv_istore (C : qC p l s m meth c cc nL own g) {i : Nat} {x : Int32} (d : decode cc pc = .ok (.istore i, 2)) (hn : i < nL) (hk : qok1 L i = true) (k : qV p l e R s m args below meth c g nL Qf o cb sb (pc + 2) (L.set i (some (qI x))) st σ) : qV p l e R s m args below meth c g nL Qf o cb sb pc L (qI x :: st) σ :=
  fun r hr ls H locs cells slots h1 h2 h3 h4 h5 => lv_istore C.1 C.2.1 d h1 hn rfl (fun ls' hl' => k r hr ls' H locs cells slots (qLs.store (v := qI x) hk rfl hl') h2 h3 h4 h5)
theorem qv_istore_n (C : qC p l s m meth c cc nL own g) {k0 : Fin 4} {x : Int32} (d : decode cc pc = .ok (.istore_n k0, 1)) (hn : (k0 : Nat) < nL) (hk : qok1 L k0 = true) (k : qV p l e R s m args below meth c g nL Qf o cb sb (pc + 1) (L.set k0 (some (qI x))) st σ) : qV p l e R s m args below meth c g nL Qf o cb sb pc L (qI x :: st) σ :=
  fun r hr ls H locs cells slots h1 h2 h3 h4 h5 => lv_istore_n C.1 C.2.1 d rfl h1 hn rfl (fun ls' hl' => k r hr ls' H locs cells slots (qLs.store (v := qI x) hk rfl hl') h2 h3 h4 h5)
theorem qv_astore (C : qC p l s m meth c cc nL own g) {i : Nat} {a : Nat × Nat} (d : decode cc pc = .ok (.astore i, 2)) (hn : i < nL) (hk : qok1 L i = true) (k : qV p l e R s m args below meth c g nL Qf o cb sb (pc + 2) (L.set i (some (.inr a))) st σ) : qV p l e R s m args below meth c g nL Qf o cb sb pc L (.inr a :: st) σ :=
  fun r hr ls H locs cells slots h1 h2 h3 h4 h5 => lv_astore C.1 C.2.1 d h1 hn rfl (fun ls' hl' => k r hr ls' H locs cells slots (qLs.store (v := .inr a) hk rfl hl') h2 h3 h4 h5)
theorem qv_astore_n (C : qC p l s m meth c cc nL own g) {k0 : Fin 4} {a : Nat × Nat} (d : decode cc pc = .ok (.astore_n k0, 1)) (hn : (k0 : Nat) < nL) (hk : qok1 L k0 = true) (k : qV p l e R s m args below meth c g nL Qf o cb sb (pc + 1) (L.set k0 (some (.inr a))) st σ) : qV p l e R s m args below meth c g nL Qf o cb sb pc L (.inr a :: st) σ :=
  fun r hr ls H locs cells slots h1 h2 h3 h4 h5 => lv_astore_n C.1 C.2.1 d rfl h1 hn rfl (fun ls' hl' => k r hr ls' H locs cells slots (qLs.store (v := .inr a) hk rfl hl') h2 h3 h4 h5)
theorem qv_iinc (C : qC p l s m meth c cc nL own g) {i : Nat} {n : Int} {x v : Int32} (d : decode cc pc = .ok (.iinc i n, 3)) (hl : L[i]? = some (some (qI x))) (hv : x + Int32.ofInt n = v) (hn : i < nL) (hk : qok1 L i = true) (k : qV p l e R s m args below meth c g nL Qf o cb sb (pc + 3) (L.set i (some (qI v))) st σ) : qV p l e R s m args below meth c g nL Qf o cb sb pc L st σ := by
  intro r hr ls H locs cells slots h1 h2 h3 h4 h5
  have hm := qlc_get g L 0 i _ hl
  rw [Nat.zero_add] at hm
  obtain ⟨k1, hk1⟩ := List.getElem?_of_mem hm
  exact lv_iinc C.1 C.2.1 d h1 hk1 hv hn rfl (fun ls' hl' => k r hr ls' H locs cells slots (qLs.store (v := qI v) hk rfl hl') h2 h3 h4 h5)
theorem qv_iconst (C : qC p l s m meth c cc nL own g) {n : Int} {v : Int32} (d : decode cc pc = .ok (.iconst n, 1)) (hv : Int32.ofInt n = v) (k : qV p l e R s m args below meth c g nL Qf o cb sb (pc + 1) L (qI v :: st) σ) : qV p l e R s m args below meth c g nL Qf o cb sb pc L st σ :=
  fun r hr ls H locs cells slots h1 h2 h3 h4 h5 => lv_iconst C.1 C.2.1 d hv (k r hr ls H locs cells slots h1 h2 h3 h4 h5)
theorem qv_bipush (C : qC p l s m meth c cc nL own g) {n : Int} {v : Int32} (d : decode cc pc = .ok (.bipush n, 2)) (hv : (Int8.ofInt n).toInt32 = v) (k : qV p l e R s m args below meth c g nL Qf o cb sb (pc + 2) L (qI v :: st) σ) : qV p l e R s m args below meth c g nL Qf o cb sb pc L st σ :=
  fun r hr ls H locs cells slots h1 h2 h3 h4 h5 => lv_bipush C.1 C.2.1 d hv (k r hr ls H locs cells slots h1 h2 h3 h4 h5)
theorem qv_sipush (C : qC p l s m meth c cc nL own g) {n : Int} {v : Int32} (d : decode cc pc = .ok (.sipush n, 3)) (hv : (Int16.ofInt n).toInt32 = v) (k : qV p l e R s m args below meth c g nL Qf o cb sb (pc + 3) L (qI v :: st) σ) : qV p l e R s m args below meth c g nL Qf o cb sb pc L st σ :=
  fun r hr ls H locs cells slots h1 h2 h3 h4 h5 => lv_sipush C.1 C.2.1 d hv (k r hr ls H locs cells slots h1 h2 h3 h4 h5)
theorem qv_lconst (C : qC p l s m meth c cc nL own g) {n : Fin 2} {v : Int64} (d : decode cc pc = .ok (.lconst n, 1)) (hv : Int64.ofNat (n : Nat) = v) (k : qV p l e R s m args below meth c g nL Qf o cb sb (pc + 1) L (.inl (.long v) :: st) σ) : qV p l e R s m args below meth c g nL Qf o cb sb pc L st σ :=
  fun r hr ls H locs cells slots h1 h2 h3 h4 h5 => lv_lconst C.1 C.2.1 d hv (k r hr ls H locs cells slots h1 h2 h3 h4 h5)
theorem qv_iadd (C : qC p l s m meth c cc nL own g) {x y : Int32} (d : decode cc pc = .ok (.iadd, 1)) (k : qV p l e R s m args below meth c g nL Qf o cb sb (pc + 1) L (qI (x + y) :: st) σ) : qV p l e R s m args below meth c g nL Qf o cb sb pc L (qI y :: qI x :: st) σ :=
  fun r hr ls H locs cells slots h1 h2 h3 h4 h5 => lv_iadd C.1 C.2.1 d (k r hr ls H locs cells slots h1 h2 h3 h4 h5)
theorem qv_isub (C : qC p l s m meth c cc nL own g) {x y : Int32} (d : decode cc pc = .ok (.isub, 1)) (k : qV p l e R s m args below meth c g nL Qf o cb sb (pc + 1) L (qI (x - y) :: st) σ) : qV p l e R s m args below meth c g nL Qf o cb sb pc L (qI y :: qI x :: st) σ :=
  fun r hr ls H locs cells slots h1 h2 h3 h4 h5 => lv_isub C.1 C.2.1 d (k r hr ls H locs cells slots h1 h2 h3 h4 h5)
theorem qv_imul (C : qC p l s m meth c cc nL own g) {x y : Int32} (d : decode cc pc = .ok (.imul, 1)) (k : qV p l e R s m args below meth c g nL Qf o cb sb (pc + 1) L (qI (x * y) :: st) σ) : qV p l e R s m args below meth c g nL Qf o cb sb pc L (qI y :: qI x :: st) σ :=
  fun r hr ls H locs cells slots h1 h2 h3 h4 h5 => lv_imul C.1 C.2.1 d (k r hr ls H locs cells slots h1 h2 h3 h4 h5)
theorem qv_iand (C : qC p l s m meth c cc nL own g) {x y : Int32} (d : decode cc pc = .ok (.iand, 1)) (k : qV p l e R s m args below meth c g nL Qf o cb sb (pc + 1) L (qI (x &&& y) :: st) σ) : qV p l e R s m args below meth c g nL Qf o cb sb pc L (qI y :: qI x :: st) σ :=
  fun r hr ls H locs cells slots h1 h2 h3 h4 h5 => lv_iand C.1 C.2.1 d (k r hr ls H locs cells slots h1 h2 h3 h4 h5)
theorem qv_ior (C : qC p l s m meth c cc nL own g) {x y : Int32} (d : decode cc pc = .ok (.ior, 1)) (k : qV p l e R s m args below meth c g nL Qf o cb sb (pc + 1) L (qI (x ||| y) :: st) σ) : qV p l e R s m args below meth c g nL Qf o cb sb pc L (qI y :: qI x :: st) σ :=
  fun r hr ls H locs cells slots h1 h2 h3 h4 h5 => lv_ior C.1 C.2.1 d (k r hr ls H locs cells slots h1 h2 h3 h4 h5)
theorem qv_ixor (C : qC p l s m meth c cc nL own g) {x y : Int32} (d : decode cc pc = .ok (.ixor, 1)) (k : qV p l e R s m args below meth c g nL Qf o cb sb (pc + 1) L (qI (x ^^^ y) :: st) σ) : qV p l e R s m args below meth c g nL Qf o cb sb pc L (qI y :: qI x :: st) σ :=
  fun r hr ls H locs cells slots h1 h2 h3 h4 h5 => lv_ixor C.1 C.2.1 d (k r hr ls H locs cells slots h1 h2 h3 h4 h5)
theorem qv_ishl (C : qC p l s m meth c cc nL own g) {x y : Int32} (d : decode cc pc = .ok (.ishl, 1)) (k : qV p l e R s m args below meth c g nL Qf o cb sb (pc + 1) L (qI (x <<< (y &&& 31)) :: st) σ) : qV p l e R s m args below meth c g nL Qf o cb sb pc L (qI y :: qI x :: st) σ :=
  fun r hr ls H locs cells slots h1 h2 h3 h4 h5 => lv_ishl C.1 C.2.1 d (k r hr ls H locs cells slots h1 h2 h3 h4 h5)
theorem qv_ishr (C : qC p l s m meth c cc nL own g) {x y : Int32} (d : decode cc pc = .ok (.ishr, 1)) (k : qV p l e R s m args below meth c g nL Qf o cb sb (pc + 1) L (qI (x >>> (y &&& 31)) :: st) σ) : qV p l e R s m args below meth c g nL Qf o cb sb pc L (qI y :: qI x :: st) σ :=
  fun r hr ls H locs cells slots h1 h2 h3 h4 h5 => lv_ishr C.1 C.2.1 d (k r hr ls H locs cells slots h1 h2 h3 h4 h5)
theorem qv_iushr (C : qC p l s m meth c cc nL own g) {x y : Int32} (d : decode cc pc = .ok (.iushr, 1)) (k : qV p l e R s m args below meth c g nL Qf o cb sb (pc + 1) L (qI ((x.toUInt32 >>> (y.toUInt32 &&& Int32.toUInt32 31)).toInt32) :: st) σ) : qV p l e R s m args below meth c g nL Qf o cb sb pc L (qI y :: qI x :: st) σ :=
  fun r hr ls H locs cells slots h1 h2 h3 h4 h5 => lv_iushr C.1 C.2.1 d rfl (k r hr ls H locs cells slots h1 h2 h3 h4 h5)
theorem qv_ineg (C : qC p l s m meth c cc nL own g) {x : Int32} (d : decode cc pc = .ok (.ineg, 1)) (k : qV p l e R s m args below meth c g nL Qf o cb sb (pc + 1) L (qI (-x) :: st) σ) : qV p l e R s m args below meth c g nL Qf o cb sb pc L (qI x :: st) σ :=
  fun r hr ls H locs cells slots h1 h2 h3 h4 h5 => lv_ineg C.1 C.2.1 d (k r hr ls H locs cells slots h1 h2 h3 h4 h5)
theorem qv_idiv (C : qC p l s m meth c cc nL own g) {x y : Int32} (d : decode cc pc = .ok (.idiv, 1)) (k : ¬ y = 0 → qV p l e R s m args below meth c g nL Qf o cb sb (pc + 1) L (qI (x / y) :: st) σ) : qV p l e R s m args below meth c g nL Qf (if y = 0 then none else o) cb sb pc L (qI y :: qI x :: st) σ := by
  by_cases h : y = 0
  · rw [if_pos h]; exact qV.no
  · rw [if_neg h]
    have k := k h
    exact fun r hr ls H locs cells slots h1 h2 h3 h4 h5 => lv_idiv C.1 C.2.1 d h (k r hr ls H locs cells slots h1 h2 h3 h4 h5)
theorem qv_irem (C : qC p l s m meth c cc nL own g) {x y : Int32} (d : decode cc pc = .ok (.irem, 1)) (k : ¬ y = 0 → qV p l e R s m args below meth c g nL Qf o cb sb (pc + 1) L (qI (x - x / y * y) :: st) σ) : qV p l e R s m args below meth c g nL Qf (if y = 0 then none else o) cb sb pc L (qI y :: qI x :: st) σ := by
  by_cases h : y = 0
  · rw [if_pos h]; exact qV.no
  · rw [if_neg h]
    have k := k h
    exact fun r hr ls H locs cells slots h1 h2 h3 h4 h5 => lv_irem C.1 C.2.1 d h (k r hr ls H locs cells slots h1 h2 h3 h4 h5)
theorem qv_i2l (C : qC p l s m meth c cc nL own g) {x : Int32} (d : decode cc pc = .ok (.i2l, 1)) (k : qV p l e R s m args below meth c g nL Qf o cb sb (pc + 1) L (.inl (.long x.toInt64) :: st) σ) : qV p l e R s m args below meth c g nL Qf o cb sb pc L (qI x :: st) σ :=
  fun r hr ls H locs cells slots h1 h2 h3 h4 h5 => lv_i2l C.1 C.2.1 d rfl (k r hr ls H locs cells slots h1 h2 h3 h4 h5)
theorem qv_i2c (C : qC p l s m meth c cc nL own g) {x : Int32} (d : decode cc pc = .ok (.i2c, 1)) (k : qV p l e R s m args below meth c g nL Qf o cb sb (pc + 1) L (qI ((x.toUInt32 % 65536).toInt32) :: st) σ) : qV p l e R s m args below meth c g nL Qf o cb sb pc L (qI x :: st) σ :=
  fun r hr ls H locs cells slots h1 h2 h3 h4 h5 => lv_i2c C.1 C.2.1 d rfl (k r hr ls H locs cells slots h1 h2 h3 h4 h5)
theorem qv_dup (C : qC p l s m meth c cc nL own g) {v : qA} (d : decode cc pc = .ok (.dup, 1)) (hv : qcat v = 1) (k : qV p l e R s m args below meth c g nL Qf o cb sb (pc + 1) L (v :: v :: st) σ) : qV p l e R s m args below meth c g nL Qf o cb sb pc L (v :: st) σ :=
  fun r hr ls H locs cells slots h1 h2 h3 h4 h5 => lv_dup C.1 C.2.1 d (by rw [qcat_cv]; exact hv) (k r hr ls H locs cells slots h1 h2 h3 h4 h5)
theorem qv_dup2 (C : qC p l s m meth c cc nL own g) {v w : qA} (d : decode cc pc = .ok (.dup2, 1)) (hv : qcat v = 1) (hw : qcat w = 1) (k : qV p l e R s m args below meth c g nL Qf o cb sb (pc + 1) L (v :: w :: v :: w :: st) σ) : qV p l e R s m args below meth c g nL Qf o cb sb pc L (v :: w :: st) σ :=
  fun r hr ls H locs cells slots h1 h2 h3 h4 h5 => lv_dup2_11 C.1 C.2.1 d (by rw [qcat_cv]; exact hv) (by rw [qcat_cv]; exact hw) (k r hr ls H locs cells slots h1 h2 h3 h4 h5)
theorem qv_pop (C : qC p l s m meth c cc nL own g) {v : qA} (d : decode cc pc = .ok (.pop, 1)) (hv : qcat v = 1) (k : qV p l e R s m args below meth c g nL Qf o cb sb (pc + 1) L st σ) : qV p l e R s m args below meth c g nL Qf o cb sb pc L (v :: st) σ :=
  fun r hr ls H locs cells slots h1 h2 h3 h4 h5 => lv_pop C.1 C.2.1 d (by rw [qcat_cv]; exact hv) (k r hr ls H locs cells slots h1 h2 h3 h4 h5)
theorem qv_if_eq (C : qC p l s m meth c cc nL own g) {x : Int32} {off : Int} {tgt : Nat} {o1 o2 : Option qO} (d : decode cc pc = .ok (.ifCond .eq off, 3)) (ht : (pc : Int) + off = (tgt : Int)) (k1 : x = 0 → qV p l e R s m args below meth c g nL Qf o1 cb sb tgt L st σ) (k2 : ¬ (x = 0) → qV p l e R s m args below meth c g nL Qf o2 cb sb (pc + 3) L st σ) : qV p l e R s m args below meth c g nL Qf (if x = 0 then o1 else o2) cb sb pc L (qI x :: st) σ := by
  intro r hr ls H locs cells slots h1 h2 h3 h4 h5
  refine lv_if_eq C.1 C.2.1 d ht (fun h => ?_) (fun h => ?_)
  · rw [if_pos h] at hr; exact k1 h r hr ls H locs cells slots h1 h2 h3 h4 h5
  · rw [if_neg h] at hr; exact k2 h r hr ls H locs cells slots h1 h2 h3 h4 h5
theorem qv_icmp_eq (C : qC p l s m meth c cc nL own g) {x y : Int32} {off : Int} {tgt : Nat} {o1 o2 : Option qO} (d : decode cc pc = .ok (.if_icmp .eq off, 3)) (ht : (pc : Int) + off = (tgt : Int)) (k1 : x = y → qV p l e R s m args below meth c g nL Qf o1 cb sb tgt L st σ) (k2 : ¬ (x = y) → qV p l e R s m args below meth c g nL Qf o2 cb sb (pc + 3) L st σ) : qV p l e R s m args below meth c g nL Qf (if x = y then o1 else o2) cb sb pc L (qI y :: qI x :: st) σ := by
  intro r hr ls H locs cells slots h1 h2 h3 h4 h5
  refine lv_icmp_eq C.1 C.2.1 d ht (fun h => ?_) (fun h => ?_)
  · rw [if_pos h] at hr; exact k1 h r hr ls H locs cells slots h1 h2 h3 h4 h5
  · rw [if_neg h] at hr; exact k2 h r hr ls H locs cells slots h1 h2 h3 h4 h5
theorem qv_if_ne (C : qC p l s m meth c cc nL own g) {x : Int32} {off : Int} {tgt : Nat} {o1 o2 : Option qO} (d : decode cc pc = .ok (.ifCond .ne off, 3)) (ht : (pc : Int) + off = (tgt : Int)) (k1 : x = 0 → qV p l e R s m args below meth c g nL Qf o1 cb sb (pc + 3) L st σ) (k2 : ¬ (x = 0) → qV p l e R s m args below meth c g nL Qf o2 cb sb tgt L st σ) : qV p l e R s m args below meth c g nL Qf (if x = 0 then o1 else o2) cb sb pc L (qI x :: st) σ := by
  intro r hr ls H locs cells slots h1 h2 h3 h4 h5
  refine lv_if_ne C.1 C.2.1 d ht (fun h => ?_) (fun h => ?_)
  · rw [if_neg h] at hr; exact k2 h r hr ls H locs cells slots h1 h2 h3 h4 h5
  · rw [if_pos h] at hr; exact k1 h r hr ls H locs cells slots h1 h2 h3 h4 h5
theorem qv_icmp_ne (C : qC p l s m meth c cc nL own g) {x y : Int32} {off : Int} {tgt : Nat} {o1 o2 : Option qO} (d : decode cc pc = .ok (.if_icmp .ne off, 3)) (ht : (pc : Int) + off = (tgt : Int)) (k1 : x = y → qV p l e R s m args below meth c g nL Qf o1 cb sb (pc + 3) L st σ) (k2 : ¬ (x = y) → qV p l e R s m args below meth c g nL Qf o2 cb sb tgt L st σ) : qV p l e R s m args below meth c g nL Qf (if x = y then o1 else o2) cb sb pc L (qI y :: qI x :: st) σ := by
  intro r hr ls H locs cells slots h1 h2 h3 h4 h5
  refine lv_icmp_ne C.1 C.2.1 d ht (fun h => ?_) (fun h => ?_)
  · rw [if_neg h] at hr; exact k2 h r hr ls H locs cells slots h1 h2 h3 h4 h5
  · rw [if_pos h] at hr; exact k1 h r hr ls H locs cells slots h1 h2 h3 h4 h5
theorem qv_if_lt (C : qC p l s m meth c cc nL own g) {x : Int32} {off : Int} {tgt : Nat} {o1 o2 : Option qO} (d : decode cc pc = .ok (.ifCond .lt off, 3)) (ht : (pc : Int) + off = (tgt : Int)) (k1 : x < 0 → qV p l e R s m args below meth c g nL Qf o1 cb sb tgt L st σ) (k2 : ¬ (x < 0) → qV p l e R s m args below meth c g nL Qf o2 cb sb (pc + 3) L st σ) : qV p l e R s m args below meth c g nL Qf (if x < 0 then o1 else o2) cb sb pc L (qI x :: st) σ := by
  intro r hr ls H locs cells slots h1 h2 h3 h4 h5
  refine lv_if_lt C.1 C.2.1 d ht (fun h => ?_) (fun h => ?_)
  · rw [if_pos h] at hr; exact k1 h r hr ls H locs cells slots h1 h2 h3 h4 h5
  · rw [if_neg h] at hr; exact k2 h r hr ls H locs cells slots h1 h2 h3 h4 h5
theorem qv_icmp_lt (C : qC p l s m meth c cc nL own g) {x y : Int32} {off : Int} {tgt : Nat} {o1 o2 : Option qO} (d : decode cc pc = .ok (.if_icmp .lt off, 3)) (ht : (pc : Int) + off = (tgt : Int)) (k1 : x < y → qV p l e R s m args below meth c g nL Qf o1 cb sb tgt L st σ) (k2 : ¬ (x < y) → qV p l e R s m args below meth c g nL Qf o2 cb sb (pc + 3) L st σ) : qV p l e R s m args below meth c g nL Qf (if x < y then o1 else o2) cb sb pc L (qI y :: qI x :: st) σ := by
  intro r hr ls H locs cells slots h1 h2 h3 h4 h5
  refine lv_icmp_lt C.1 C.2.1 d ht (fun h => ?_) (fun h => ?_)
  · rw [if_pos h] at hr; exact k1 h r hr ls H locs cells slots h1 h2 h3 h4 h5
  · rw [if_neg h] at hr; exact k2 h r hr ls H locs cells slots h1 h2 h3 h4 h5
theorem qv_if_ge (C : qC p l s m meth c cc nL own g) {x : Int32} {off : Int} {tgt : Nat} {o1 o2 : Option qO} (d : decode cc pc = .ok (.ifCond .ge off, 3)) (ht : (pc : Int) + off = (tgt : Int)) (k1 : 0 ≤ x → qV p l e R s m args below meth c g nL Qf o1 cb sb tgt L st σ) (k2 : ¬ (0 ≤ x) → qV p l e R s m args below meth c g nL Qf o2 cb sb (pc + 3) L st σ) : qV p l e R s m args below meth c g nL Qf (if 0 ≤ x then o1 else o2) cb sb pc L (qI x :: st) σ := by
  intro r hr ls H locs cells slots h1 h2 h3 h4 h5
  refine lv_if_ge C.1 C.2.1 d ht (fun h => ?_) (fun h => ?_)
  · rw [if_pos h] at hr; exact k1 h r hr ls H locs cells slots h1 h2 h3 h4 h5
  · rw [if_neg h] at hr; exact k2 h r hr ls H locs cells slots h1 h2 h3 h4 h5
theorem qv_icmp_ge (C : qC p l s m meth c cc nL own g) {x y : Int32} {off : Int} {tgt : Nat} {o1 o2 : Option qO} (d : decode cc pc = .ok (.if_icmp .ge off, 3)) (ht : (pc : Int) + off = (tgt : Int)) (k1 : y ≤ x → qV p l e R s m args below meth c g nL Qf o1 cb sb tgt L st σ) (k2 : ¬ (y ≤ x) → qV p l e R s m args below meth c g nL Qf o2 cb sb (pc + 3) L st σ) : qV p l e R s m args below meth c g nL Qf (if y ≤ x then o1 else o2) cb sb pc L (qI y :: qI x :: st) σ := by
  intro r hr ls H locs cells slots h1 h2 h3 h4 h5
  refine lv_icmp_ge C.1 C.2.1 d ht (fun h => ?_) (fun h => ?_)
  · rw [if_pos h] at hr; exact k1 h r hr ls H locs cells slots h1 h2 h3 h4 h5
  · rw [if_neg h] at hr; exact k2 h r hr ls H locs cells slots h1 h2 h3 h4 h5
theorem qv_if_gt (C : qC p l s m meth c cc nL own g) {x : Int32} {off : Int} {tgt : Nat} {o1 o2 : Option qO} (d : decode cc pc = .ok (.ifCond .gt off, 3)) (ht : (pc : Int) + off = (tgt : Int)) (k1 : 0 < x → qV p l e R s m args below meth c g nL Qf o1 cb sb tgt L st σ) (k2 : ¬ (0 < x) → qV p l e R s m args below meth c g nL Qf o2 cb sb (pc + 3) L st σ) : qV p l e R s m args below meth c g nL Qf (if 0 < x then o1 else o2) cb sb pc L (qI x :: st) σ := by
  intro r hr ls H locs cells slots h1 h2 h3 h4 h5
  refine lv_if_gt C.1 C.2.1 d ht (fun h => ?_) (fun h => ?_)
  · rw [if_pos h] at hr; exact k1 h r hr ls H locs cells slots h1 h2 h3 h4 h5
  · rw [if_neg h] at hr; exact k2 h r hr ls H locs cells slots h1 h2 h3 h4 h5
theorem qv_icmp_gt (C : qC p l s m meth c cc nL own g) {x y : Int32} {off : Int} {tgt : Nat} {o1 o2 : Option qO} (d : decode cc pc = .ok (.if_icmp .gt off, 3)) (ht : (pc : Int) + off = (tgt : Int)) (k1 : y < x → qV p l e R s m args below meth c g nL Qf o1 cb sb tgt L st σ) (k2 : ¬ (y < x) → qV p l e R s m args below meth c g nL Qf o2 cb sb (pc + 3) L st σ) : qV p l e R s m args below meth c g nL Qf (if y < x then o1 else o2) cb sb pc L (qI y :: qI x :: st) σ := by
  intro r hr ls H locs cells slots h1 h2 h3 h4 h5
  refine lv_icmp_gt C.1 C.2.1 d ht (fun h => ?_) (fun h => ?_)
  · rw [if_pos h] at hr; exact k1 h r hr ls H locs cells slots h1 h2 h3 h4 h5
  · rw [if_neg h] at hr; exact k2 h r hr ls H locs cells slots h1 h2 h3 h4 h5
theorem qv_if_le (C : qC p l s m meth c cc nL own g) {x : Int32} {off : Int} {tgt : Nat} {o1 o2 : Option qO} (d : decode cc pc = .ok (.ifCond .le off, 3)) (ht : (pc : Int) + off = (tgt : Int)) (k1 : x ≤ 0 → qV p l e R s m args below meth c g nL Qf o1 cb sb tgt L st σ) (k2 : ¬ (x ≤ 0) → qV p l e R s m args below meth c g nL Qf o2 cb sb (pc + 3) L st σ) : qV p l e R s m args below meth c g nL Qf (if x ≤ 0 then o1 else o2) cb sb pc L (qI x :: st) σ := by
  intro r hr ls H locs cells slots h1 h2 h3 h4 h5
  refine lv_if_le C.1 C.2.1 d ht (fun h => ?_) (fun h => ?_)
  · rw [if_pos h] at hr; exact k1 h r hr ls H locs cells slots h1 h2 h3 h4 h5
  · rw [if_neg h] at hr; exact k2 h r hr ls H locs cells slots h1 h2 h3 h4 h5
theorem qv_icmp_le (C : qC p l s m meth c cc nL own g) {x y : Int32} {off : Int} {tgt : Nat} {o1 o2 : Option qO} (d : decode cc pc = .ok (.if_icmp .le off, 3)) (ht : (pc : Int) + off = (tgt : Int)) (k1 : x ≤ y → qV p l e R s m args below meth c g nL Qf o1 cb sb tgt L st σ) (k2 : ¬ (x ≤ y) → qV p l e R s m args below meth c g nL Qf o2 cb sb (pc + 3) L st σ) : qV p l e R s m args below meth c g nL Qf (if x ≤ y then o1 else o2) cb sb pc L (qI y :: qI x :: st) σ := by
  intro r hr ls H locs cells slots h1 h2 h3 h4 h5
  refine lv_icmp_le C.1 C.2.1 d ht (fun h => ?_) (fun h => ?_)
  · rw [if_pos h] at hr; exact k1 h r hr ls H locs cells slots h1 h2 h3 h4 h5
  · rw [if_neg h] at hr; exact k2 h r hr ls H locs cells slots h1 h2 h3 h4 h5
theorem qv_goto (C : qC p l s m meth c cc nL own g) {off : Int} {tgt : Nat} (d : decode cc pc = .ok (.goto off, 3)) (ht : (pc : Int) + off = (tgt : Int)) (k : qV p l e R s m args below meth c g nL Qf o cb sb tgt L st σ) : qV p l e R s m args below meth c g nL Qf o cb sb pc L st σ :=
  fun r hr ls H locs cells slots h1 h2 h3 h4 h5 => lv_goto C.1 C.2.1 d ht (k r hr ls H locs cells slots h1 h2 h3 h4 h5)
/-- what a method may link: a field by its place in the pool -/
def qFl (own : String) (idx : Nat) (C : String) (T : u_T) (k : Nat) : Prop := Cond.fieldLink own idx (T k).1 (T k).2.1 (T k).2.2.1 ∈ qWA ∨ ∃ host : String, Cond.fieldLinkNest own idx (T k).1 (T k).2.1 (T k).2.2.1 host ∈ qWA
/-- the class of a kind of objects, as the tables lay it -/
def qCl (ci : Nat) (C : String) (T : u_T) (N : Nat) : Prop := qcls[ci]? = some (C, T, N) ∧ (∀ w ∈ u_ws C T N, w ∈ qWA) ∧ (∀ a, a < N → ∀ b, b < N → a ≠ b → (T a).2.1 ≠ (T b).2.1) ∧ ∃ ty : Nat → FieldType, ∀ k, k < N → parseFieldDescriptor (T k).2.2.1 = some (ty k)
theorem qv_getfield_v (C : qC p l s m meth c cc nL own g) {C0 : String} {T : u_T} {N idx kd j f : Nat} {x : qA} {fd : Option (Nat × Nat)} (hsh : qsh kd = 0) (hCl : qCl (qci kd) C0 T N) (hF : qFl own idx C0 T f) (hf : f < N) (hkd : kd < 26) (hj : j < qn kd) (hfd : (qfs kd)[f]? = some fd) (hx : ∀ g : qG, qfv g j (σ kd j) fd f = qcv g x) (d : decode cc pc = .ok (.getfield idx, 3)) (k : qV p l e R s m args below meth c g nL Qf o cb sb (pc + 3) L (x :: st) σ) : qV p l e R s m args below meth c g nL Qf o cb sb pc L (qR kd j :: st) σ := by
  intro r hr ls H locs cells slots h1 h2 h3 h4 h5
  obtain ⟨hx0, hb, hml, hown, hE, -, -⟩ := C
  obtain ⟨q0, -, hq⟩ := qws_at g σ hkd hj
  rw [qent0 hsh] at hq
  have hv := qfl_get g j (σ kd j) (qfs kd) 0 f fd hfd
  rw [Nat.zero_add, hx g] at hv
  have K := k r hr ls H locs cells slots h1 h2 h3 h4 h5
  rcases hF with hF | ⟨host, hF⟩
  · exact va_get hx0 hb (qwords (a := args) hE.1) hCl.2.1 hown hE.1.1 h2.1 q0 hq hCl.1 f hf (qword hE.1 hF) (fun _ h => h) hv d K
  · exact va_getN hx0 hb (qwords (a := args) hE.1) hCl.2.1 hown hE.1.1 h2.1 q0 hq hCl.1 f hf (qword hE.1 hF) (fun _ h => h) hv d K
/-- a field of numbers -/
theorem qv_getI (C : qC p l s m meth c cc nL own g) {C0 : String} {T : u_T} {N idx kd j f : Nat} (hF : qFl own idx C0 T f) (hCl : qCl (qci kd) C0 T N) (hsh : qsh kd = 0) (hf : f < N) (hkd : kd < 26) (hj : j < qn kd) (hfd : (qfs kd)[f]? = some none) (d : decode cc pc = .ok (.getfield idx, 3)) (k : qV p l e R s m args below meth c g nL Qf o cb sb (pc + 3) L (qI (σ kd j f) :: st) σ) : qV p l e R s m args below meth c g nL Qf o cb sb pc L (qR kd j :: st) σ :=
  qv_getfield_v C hsh hCl hF hf hkd hj hfd (fun _ => rfl) d k
/-- a field that names a cell -/
theorem qv_getR (C : qC p l s m meth c cc nL own g) {C0 : String} {T : u_T} {N idx kd j f k2 off j2 : Nat} (hF : qFl own idx C0 T f) (hCl : qCl (qci kd) C0 T N) (hsh : qsh kd = 0) (hf : f < N) (hkd : kd < 26) (hj : j < qn kd) (hfd : (qfs kd)[f]? = some (some (k2, off))) (hj2 : j + off = j2) (d : decode cc pc = .ok (.getfield idx, 3)) (k : qV p l e R s m args below meth c g nL Qf o cb sb (pc + 3) L (qR k2 j2 :: st) σ) : qV p l e R s m args below meth c g nL Qf o cb sb pc L (qR kd j :: st) σ :=
  qv_getfield_v C hsh hCl hF hf hkd hj hfd (fun _ => by subst hj2; rfl) d k
theorem qv_putI (C : qC p l s m meth c cc nL own g) {C0 : String} {T : u_T} {N idx kd j f : Nat} {x : Int32} {ty : FieldType} (hF : qFl own idx C0 T f) (hCl : qCl (qci kd) C0 T N) (hsh : qsh kd = 0) (hf : f < N) (hkd : kd < 26) (hj : j < qn kd) (hfd : (qfs kd)[f]? = some none) (hfin : (T f).2.2.2 = false) (hty : parseFieldDescriptor (T f).2.2.1 = some ty) (hn : narrow ty (.int x) = .int x) (hfit : fits ty (.int x) = true) (d : decode cc pc = .ok (.putfield idx, 3)) (k : qV p l e R s m args below meth c g nL Qf o cb sb (pc + 3) L st (qu σ kd j f x)) : qV p l e R s m args below meth c g nL Qf o cb sb pc L (qI x :: qR kd j :: st) σ := by
  intro r hr ls H locs cells slots h1 h2 h3 h4 h5
  obtain ⟨hx0, hb, hml, hown, hE, -, -⟩ := C
  obtain ⟨q0, hc0, hq⟩ := qws_at g σ hkd hj
  obtain ⟨hcl, hin, hnm, ty0, hty0⟩ := hCl
  have he : (.inr (qci kd, (qfl g j (σ kd j) 0 (qfs kd)).set f (.int x)) : va_E) = qent g kd j (upd (σ kd j) f x) := by
    rw [qent0 hsh, qfl_set g j (σ kd j) x (qfs kd) 0 f hfd, Nat.zero_add]
  have hset := qws_set' h2.2.1 hc0 hq he
  rw [qent0 hsh] at hq
  have hl : f < (qfl g j (σ kd j) 0 (qfs kd)).length := by rw [qfl_len]; exact (List.getElem?_eq_some_iff.mp hfd).1
  have K := fun (H1 : Heap) (locs1 : List Loc) hP1 hD1 hS1 => k r hr ls H1 locs1 cells slots h1 ⟨hP1, hD1, h2.2.2.qu (by omega)⟩ hS1 h4 h5
  rcases hF with hF | ⟨host, hF⟩
  · exact va_put hx0 hb (qwords (a := args) hE.1) hin ty0 hty0 hnm hown hE.1.1 h2.1 h2.2.1 h3 q0 hq hcl f hf (qword hE.1 hF) (fun _ h => h) hfin hty hn hfit hl d (fun H1 locs1 hP1 hD1 hS1 => K H1 locs1 (hset ▸ hP1) (hset ▸ hD1) hS1)
  · exact va_putN hx0 hb (qwords (a := args) hE.1) hin ty0 hty0 hnm hown hE.1.1 h2.1 h2.2.1 h3 q0 hq hcl f hf (qword hE.1 hF) (fun _ h => h) hfin hty hn hfit hl d (fun H1 locs1 hP1 hD1 hS1 => K H1 locs1 (hset ▸ hP1) (hset ▸ hD1) hS1)

end QV
