/-! constructors: rows over a world of any number of cells (names of this part: z..) -/
def zT (D : va_G) (tf : Nat → ClassId) (U : State) : Prop := va_K D qcls [(tf 0, .int), (tf 1, .char), (tf 2, .object RX5), (tf 3, .object RX1), (tf 4, .boolean), (tf 5, .array .int), (tf 6, .byte)] U ∧ (∀ w ∈ qWA, w.before #[] U = true) ∧ va_AO RX5 U ∧ va_AO RX1 U
theorem zT.warm {D : va_G} {tf : Nat → ClassId} {s U : State} (hW : s.WarmedH U.vm) (h : zT D tf s) : zT D tf U := ⟨va_K.moved hW.alike h.1, fun w hw => qok_warm (List.mem_filter.mp hw).2 hW (h.2.1 w hw), va_AO.moved hW.alike h.2.2.1, va_AO.moved hW.alike h.2.2.2⟩
theorem zT.w {D : va_G} {tf : Nat → ClassId} {s : State} (h : zT D tf s) {w : Cond} (hw : w ∈ qWA) {a : Array Value} : w.before a s = true := qok_warm (List.mem_filter.mp hw).2 (State.WarmedH.refl s) (h.2.1 w hw)
theorem zT.ws {D : va_G} {tf : Nat → ClassId} {s : State} (h : zT D tf s) {a : Array Value} : ∀ w ∈ qWA, w.before a s = true := fun _ hw => h.w hw
theorem zT.word1 {D : va_G} {tf : Nat → ClassId} {s : State} (h : zT D tf s) {w : Cond} (hw : w ∈ qWA) : ∀ w' ∈ [w], ∀ (a' : Array Value) (U : State), s.WarmedH U.vm → w'.before a' U = true := by
  intro w' hw' a' U hW
  rw [List.mem_singleton.mp hw']
  exact qok_warm (List.mem_filter.mp hw).2 hW (h.2.1 w hw)
def zC (p : Program) (s : State) (m : MethodId) (c : Code) (cc : ByteArray) (nL : Nat) (own : String) (D : va_G) (tf : Nat → ClassId) : Prop := p.tables.exec = Jvm.exec ∧ c.code = cc ∧ c.maxLocals = nL ∧ s.vm.findClass own = some m.cls ∧ zT D tf s
def zV (p : Program) (l : Launch) (e : Env) (R : Room) (s : State) (m : MethodId) (args : Array Value) (below : List Frame) (meth : Method) (c : Code) (D : va_G) (A : Nat → Prop) (nL : Nat) (Q : State → Prop) (LV : List (Nat × Value)) (cb sb pc : Nat) (st : List Value) (ws : va_W) : Prop :=
  ∀ (ls : Array Slot) (H : Heap) (locs : List Loc) (cells slots : Nat), lv_has ls nL LV → va_P D qcls ws H → va_D A ws → va_S A s.heap H locs → cells + cb ≤ R.cells → slots + sb ≤ R.slots → W p l e R s m args below meth c H locs cells slots Q (F0 m pc ls st)
section ZV
variable {p : Program} {l : Launch} {e : Env} {R : Room} {s : State} {m : MethodId} {args : Array Value} {below : List Frame} {meth : Method} {c : Code} {D : va_G} {tf : Nat → ClassId} {A : Nat → Prop} {nL : Nat} {Q : State → Prop} {LV : List (Nat × Value)} {cb sb pc : Nat} {st : List Value} {ws : va_W} {cc : ByteArray} {own : String}
theorem zV.less {cb' sb' : Nat} (h : zV p l e R s m args below meth c D A nL Q LV cb' sb' pc st ws) (h1 : cb' ≤ cb) (h2 : sb' ≤ sb) : zV p l e R s m args below meth c D A nL Q LV cb sb pc st ws :=
  fun ls H locs cells slots a1 a2 a3 a4 a5 a6 => h ls H locs cells slots a1 a2 a3 a4 (by omega) (by omega)
theorem z_aload (C : zC p s m c cc nL own D tf) {k : Fin 4} {q a i : Nat} (d : decode cc pc = .ok (.aload_n k, 1)) (hi : (k : Nat) = i) (hl : LV[q]? = some (i, .ref a)) (kk : zV p l e R s m args below meth c D A nL Q LV cb sb (pc + 1) (.ref a :: st) ws) : zV p l e R s m args below meth c D A nL Q LV cb sb pc st ws :=
  fun ls H locs cells slots a1 a2 a3 a4 a5 a6 => lv_aload_n C.1 C.2.1 d hi (lv_at a1 q hl) (kk ls H locs cells slots a1 a2 a3 a4 a5 a6)
theorem z_iload (C : zC p s m c cc nL own D tf) {k : Fin 4} {q i : Nat} {x : Int32} (d : decode cc pc = .ok (.iload_n k, 1)) (hi : (k : Nat) = i) (hl : LV[q]? = some (i, .int x)) (kk : zV p l e R s m args below meth c D A nL Q LV cb sb (pc + 1) (.int x :: st) ws) : zV p l e R s m args below meth c D A nL Q LV cb sb pc st ws :=
  fun ls H locs cells slots a1 a2 a3 a4 a5 a6 => lv_iload_n C.1 C.2.1 d hi (lv_at a1 q hl) (kk ls H locs cells slots a1 a2 a3 a4 a5 a6)
theorem z_dup (C : zC p s m c cc nL own D tf) {a : Nat} (d : decode cc pc = .ok (.dup, 1)) (kk : zV p l e R s m args below meth c D A nL Q LV cb sb (pc + 1) (.ref a :: .ref a :: st) ws) : zV p l e R s m args below meth c D A nL Q LV cb sb pc (.ref a :: st) ws :=
  fun ls H locs cells slots a1 a2 a3 a4 a5 a6 => lv_dup C.1 C.2.1 d rfl (kk ls H locs cells slots a1 a2 a3 a4 a5 a6)
theorem z_iconst (C : zC p s m c cc nL own D tf) {n : Int} (v : Int32) (d : decode cc pc = .ok (.iconst n, 1)) (hv : Int32.ofInt n = v) (kk : zV p l e R s m args below meth c D A nL Q LV cb sb (pc + 1) (.int v :: st) ws) : zV p l e R s m args below meth c D A nL Q LV cb sb pc st ws :=
  fun ls H locs cells slots a1 a2 a3 a4 a5 a6 => lv_iconst C.1 C.2.1 d hv (kk ls H locs cells slots a1 a2 a3 a4 a5 a6)
theorem z_bipush (C : zC p s m c cc nL own D tf) {n : Int} (v : Int32) (d : decode cc pc = .ok (.bipush n, 2)) (hv : (Int8.ofInt n).toInt32 = v) (kk : zV p l e R s m args below meth c D A nL Q LV cb sb (pc + 2) (.int v :: st) ws) : zV p l e R s m args below meth c D A nL Q LV cb sb pc st ws :=
  fun ls H locs cells slots a1 a2 a3 a4 a5 a6 => lv_bipush C.1 C.2.1 d hv (kk ls H locs cells slots a1 a2 a3 a4 a5 a6)
theorem z_sipush (C : zC p s m c cc nL own D tf) {n : Int} (v : Int32) (d : decode cc pc = .ok (.sipush n, 3)) (hv : (Int16.ofInt n).toInt32 = v) (kk : zV p l e R s m args below meth c D A nL Q LV cb sb (pc + 3) (.int v :: st) ws) : zV p l e R s m args below meth c D A nL Q LV cb sb pc st ws :=
  fun ls H locs cells slots a1 a2 a3 a4 a5 a6 => lv_sipush C.1 C.2.1 d hv (kk ls H locs cells slots a1 a2 a3 a4 a5 a6)
theorem z_obj (C : zC p s m c cc nL own D tf) {idx a : Nat} (hl : Cond.methodLink own idx objectInit ∈ qWA) (ho : Cond.instanceMethod objectInit ∈ qWA ∧ Cond.code objectInit ⟨#[0xb1]⟩ 1 none ∈ qWA) (hR : 1 ≤ R.frames ∧ 20 ≤ R.locals) (hst : (st.map fun v => v.category).sum ≤ 8) (d : decode cc pc = .ok (.invokespecial idx, 3)) (kk : zV p l e R s m args below meth c D A nL Q LV cb sb (pc + 3) st ws) : zV p l e R s m args below meth c D A nL Q LV cb sb pc (.ref a :: st) ws := by
  intro ls H locs cells slots a1 a2 a3 a4 a5 a6
  refine W.objInit C.1 C.2.1 C.2.2.2.1 (C.2.2.2.2.w hl) (C.2.2.2.2.w ho.1) (C.2.2.2.2.w ho.2) rfl (a1.1.trans C.2.2.1.symm) rfl d hR.1 ?_ ?_
  · have := lv_room (m := m) (pc := pc) (ls := ls) (rest := .ref a :: st) (st := st) hst
    omega
  · exact kk ls H locs cells slots a1 a2 a3 a4 a5 a6
theorem z_new (C : zC p s m c cc nL own D tf) (hA : ∀ q, s.heap.size ≤ q → A q) {C0 : String} {T : u_T} {N ci idx : Nat} (hCl : qcls[ci]? = some (C0, T, N) ∧ (∀ w ∈ u_ws C0 T N, w ∈ qWA)) (ty : Nat → FieldType) (hty : ∀ k, k < N → parseFieldDescriptor (T k).2.2.1 = some (ty k)) (hw : Cond.classLink own idx C0 ∈ qWA ∧ Cond.instantiable C0 N ∈ qWA ∧ Cond.initialized C0 ∈ qWA) (fs : List Value) (hfs : ∀ j, j < N → defaultValue (ty j) = vp_V fs j) (d : decode cc pc = .ok (.new idx, 3))
    (kk : ∀ q : Nat, zV p l e R s m args below meth c D A nL Q LV cb sb (pc + 3) (.ref q :: st) (ws ++ [(q, .inr (ci, fs))])) : zV p l e R s m args below meth c D A nL Q LV (cb + 1) (sb + N) pc st ws := by
  intro ls H locs cells slots a1 a2 a3 a4 a5 a6
  exact va_new C.1 C.2.1 (C.2.2.2.2.ws (a := args)) hCl.2 ty hty C.2.2.2.1 (C.2.2.2.2.w hw.1) (C.2.2.2.2.w hw.2.1) (C.2.2.2.2.w hw.2.2) C.2.2.2.2.1 a2 a3 a4 hA hCl.1 hfs (by omega) (by omega) d (fun q H1 b1 b2 b3 => kk q ls H1 locs (cells + 1) (slots + N) a1 b1 b2 b3 (by omega) (by omega))
/-- a new array of numbers -/
theorem z_newa (C : zC p s m c cc nL own D tf) (hA : ∀ q, s.heap.size ≤ q → A q) {atype : ArrayType} {ty : FieldType} {t0 : Nat} (hty : newarray.typeOf atype = ty) (hp : ∀ C, ty ≠ .object C) (ht : [(tf 0, FieldType.int), (tf 1, .char), (tf 2, .object RX5), (tf 3, .object RX1), (tf 4, .boolean), (tf 5, .array .int), (tf 6, .byte)][t0]? = some (tf t0, ty)) (harr : Cond.arrayClass ty ∈ qWA) {n : Int32} {N' : Nat} {a0 : vp_A} (ha : ∀ cA : ClassId, vp_cell cA a0 = arrV cA N' (fun _ => defaultValue ty)) (hn : ¬ n < 0) (hN : n.toNatClampNeg = N') (hb : N' * componentBytes ty ≤ 536870912) (d : decode cc pc = .ok (.newarray atype, 2))
    (kk : ∀ q : Nat, zV p l e R s m args below meth c D A nL Q LV cb sb (pc + 2) (.ref q :: st) (ws ++ [(q, .inl (tf t0, a0))])) : zV p l e R s m args below meth c D A nL Q LV (cb + 1) (sb + N') pc (.int n :: st) ws := by
  intro ls H locs cells slots a1 a2 a3 a4 a5 a6
  refine va_newa C.1 C.2.1 (by rw [hty]; exact C.2.2.2.2.w harr) hty C.2.2.2.2.1 a2 a3 a4 hA ha hn hN hb (by omega) (by omega) d (fun q cA H1 hK b1 b2 b3 => ?_)
  have e1 := (hK.2 7 (cA, ty) (by simp)).2
  have e2 := (C.2.2.2.2.1.2 t0 _ ht).2
  have e : cA = tf t0 := by
    cases ty with
    | object C => exact absurd rfl (hp C)
    | _ => exact Option.some.inj (e1.symm.trans e2)
  subst e
  exact kk q ls H1 locs (cells + 1) (slots + N') a1 b1 b2 b3 (by omega) (by omega)
/-- a new array of references -/
theorem z_newq (C : zC p s m c cc nL own D tf) (hA : ∀ q, s.heap.size ≤ q → A q) {C0 : String} {t0 idx : Nat} (ht : [(tf 0, FieldType.int), (tf 1, .char), (tf 2, .object RX5), (tf 3, .object RX1), (tf 4, .boolean), (tf 5, .array .int), (tf 6, .byte)][t0]? = some (tf t0, .object C0)) (hw : Cond.classLink own idx C0 ∈ qWA) (ho : zT D tf s → va_AO C0 s) {n : Int32} {N' : Nat} (hn : ¬ n < 0) (hN : n.toNatClampNeg = N') (hb : N' * 4 ≤ 536870912) (d : decode cc pc = .ok (.anewarray idx, 3))
    (kk : ∀ q : Nat, zV p l e R s m args below meth c D A nL Q LV cb sb (pc + 3) (.ref q :: st) (ws ++ [(q, .inl (tf t0, N', .inr (.inr (.inr (.inr (fun _ => none))))))])) : zV p l e R s m args below meth c D A nL Q LV (cb + 1) (sb + N') pc (.int n :: st) ws := by
  intro ls H locs cells slots a1 a2 a3 a4 a5 a6
  refine va_newq C.1 C.2.1 C.2.2.2.1 (C.2.2.2.2.w hw) (ho C.2.2.2.2) C.2.2.2.2.1 a2 a3 a4 hA hn hN hb (by omega) (by omega) d (fun q cA H1 hK b1 b2 b3 => ?_)
  obtain ⟨-, kA, comp, -, -, -, e1⟩ := hK.2 7 (cA, .object C0) (by simp)
  obtain ⟨-, kA2, comp2, -, -, -, e2⟩ := C.2.2.2.2.1.2 t0 _ ht
  have e : cA = tf t0 := Option.some.inj (e1.symm.trans e2)
  subst e
  exact kk q ls H1 locs (cells + 1) (slots + N') a1 b1 b2 b3 (by omega) (by omega)
/-- a final field is set in the constructor; a field that isn't -/
theorem z_putF (C : zC p s m c cc nL own D tf) {T : u_T} {N ci idx a q0 k : Nat} {fs : List Value} {v : Value} {ty : FieldType} (hCl : qcls[ci]? = some (own, T, N) ∧ (∀ w ∈ u_ws own T N, w ∈ qWA)) (ty0 : Nat → FieldType) (hty : ∀ k, k < N → parseFieldDescriptor (T k).2.2.1 = some (ty0 k)) (hnm : ∀ a, a < N → ∀ b, b < N → a ≠ b → (T a).2.1 ≠ (T b).2.1) (he : ws[q0]? = some (a, .inr (ci, fs))) (hk : k < N) (hlink : Cond.fieldLink own idx own (T k).2.1 (T k).2.2.1 ∈ qWA) (hdecl : (T k).1 = own) (hfin : (T k).2.2.2 = true) (hin : meth.name = "<init>") (hd : parseFieldDescriptor (T k).2.2.1 = some ty) (hn : narrow ty v = v) (hfit : fits ty v = true) (hl : k < fs.length) (d : decode cc pc = .ok (.putfield idx, 3))
    (kk : zV p l e R s m args below meth c D A nL Q LV cb sb (pc + 3) st (ws.set q0 (a, .inr (ci, fs.set k v)))) : zV p l e R s m args below meth c D A nL Q LV cb sb pc (v :: .ref a :: st) ws := by
  intro ls H locs cells slots a1 a2 a3 a4 a5 a6
  exact va_putF C.1 C.2.1 (C.2.2.2.2.ws (a := args)) hCl.2 ty0 hty hnm C.2.2.2.1 C.2.2.2.2.1 a2 a3 a4 q0 he hCl.1 k hk (C.2.2.2.2.w hlink) (fun _ h => by rw [hdecl] at h; exact h) hfin hin hdecl hd hn hfit hl d (fun H1 locs1 b1 b2 b3 => kk ls H1 locs1 cells slots a1 b1 b2 b3 a5 a6)
theorem z_put (C : zC p s m c cc nL own D tf) {T : u_T} {N ci idx a q0 k : Nat} {fs : List Value} {v : Value} {ty : FieldType} (hCl : qcls[ci]? = some (own, T, N) ∧ (∀ w ∈ u_ws own T N, w ∈ qWA)) (ty0 : Nat → FieldType) (hty : ∀ k, k < N → parseFieldDescriptor (T k).2.2.1 = some (ty0 k)) (hnm : ∀ a, a < N → ∀ b, b < N → a ≠ b → (T a).2.1 ≠ (T b).2.1) (he : ws[q0]? = some (a, .inr (ci, fs))) (hk : k < N) (hlink : Cond.fieldLink own idx own (T k).2.1 (T k).2.2.1 ∈ qWA) (hdecl : (T k).1 = own) (hfin : (T k).2.2.2 = false) (hd : parseFieldDescriptor (T k).2.2.1 = some ty) (hn : narrow ty v = v) (hfit : fits ty v = true) (hl : k < fs.length) (d : decode cc pc = .ok (.putfield idx, 3))
    (kk : zV p l e R s m args below meth c D A nL Q LV cb sb (pc + 3) st (ws.set q0 (a, .inr (ci, fs.set k v)))) : zV p l e R s m args below meth c D A nL Q LV cb sb pc (v :: .ref a :: st) ws := by
  intro ls H locs cells slots a1 a2 a3 a4 a5 a6
  exact va_put C.1 C.2.1 (C.2.2.2.2.ws (a := args)) hCl.2 ty0 hty hnm C.2.2.2.1 C.2.2.2.2.1 a2 a3 a4 q0 he hCl.1 k hk (C.2.2.2.2.w hlink) (fun _ h => by rw [hdecl] at h; exact h) hfin hd hn hfit hl d (fun H1 locs1 b1 b2 b3 => kk ls H1 locs1 cells slots a1 b1 b2 b3 a5 a6)
theorem z_get (C : zC p s m c cc nL own D tf) {T : u_T} {N ci idx a q0 k : Nat} {fs : List Value} {v : Value} (hCl : qcls[ci]? = some (own, T, N) ∧ (∀ w ∈ u_ws own T N, w ∈ qWA)) (he : ws[q0]? = some (a, .inr (ci, fs))) (hk : k < N) (hlink : Cond.fieldLink own idx own (T k).2.1 (T k).2.2.1 ∈ qWA) (hdecl : (T k).1 = own) (hv : fs[k]? = some v) (d : decode cc pc = .ok (.getfield idx, 3))
    (kk : zV p l e R s m args below meth c D A nL Q LV cb sb (pc + 3) (v :: st) ws) : zV p l e R s m args below meth c D A nL Q LV cb sb pc (.ref a :: st) ws := by
  intro ls H locs cells slots a1 a2 a3 a4 a5 a6
  exact va_get C.1 C.2.1 (C.2.2.2.2.ws (a := args)) hCl.2 C.2.2.2.1 C.2.2.2.2.1 a2 q0 he hCl.1 k hk (C.2.2.2.2.w hlink) (fun _ h => by rw [hdecl] at h; exact h) hv d (kk ls H locs cells slots a1 a2 a3 a4 a5 a6)
/-- behind a constructor's call -/
theorem z_after {S : Type} {post : S → Prop} {w : S → va_W} {q mc ms : Nat} {e0 : va_E} {a : Array Value} {st0 : List Value} (hA : ∀ q, s.heap.size ≤ q → A q)
    (hr : ∀ (ls : Array Slot) (H : Heap) (locs : List Loc) (cells slots : Nat), lv_has ls nL LV → va_P D qcls (ws ++ [(q, e0)]) H → va_D A (ws ++ [(q, e0)]) → va_S A s.heap H locs → cells + mc ≤ R.cells → slots + ms ≤ R.slots → va_Run p l e R s m args below meth c H locs cells slots mc ms (F0 m pc ls st0) st (va_Qv post (fun u t => va_P D qcls (w u) t.heap ∧ va_D (va_A [(q, e0)] H.size) (w u)) (va_A [(q, e0)] H.size) a) (va_A [(q, e0)] H.size))
    (kk : ∀ u : S, post u → zV p l e R s m args below meth c D A nL Q LV cb sb (pc + 3) st (ws ++ w u)) : zV p l e R s m args below meth c D A nL Q LV (cb + mc) (sb + ms) pc st0 (ws ++ [(q, e0)]) := by
  intro ls H locs cells slots a1 a2 a3 a4 a5 a6
  have hq : A q := a3.2 ws.length (q, e0) (by simp)
  have hF : ∀ x, va_A [(q, e0)] H.size x → A x := by
    rintro x (⟨k, e1, h⟩ | h)
    · rcases k with _ | k
      · simp only [List.getElem?_cons_zero, Option.some.injEq, Prod.mk.injEq] at h
        rw [← h.1]; exact hq
      · simp at h
    · exact hA x (Nat.le_trans a4.1 h)
  have hold : ∀ (k : Nat) (x : Nat × va_E), ws[k]? = some x → x.1 < H.size ∧ ¬ va_A [(q, e0)] H.size x.1 := by
    intro k x hx
    have hl : k < ws.length := (List.getElem?_eq_some_iff.mp hx).1
    have hx2 : (ws ++ [(q, e0)])[k]? = some x := by rw [List.getElem?_append_left hl]; exact hx
    have hlt := (a2 k x hx2).lt
    refine ⟨hlt, ?_⟩
    rintro (⟨k2, e1, h⟩ | h)
    · rcases k2 with _ | k2
      · simp only [List.getElem?_cons_zero, Option.some.injEq, Prod.mk.injEq] at h
        have := a3.1 k ws.length x (q, e0) hx2 (by simp) h.1.symm
        omega
      · simp at h
    · omega
  refine va_callv (hr ls H locs cells slots a1 a2 a3 a4 (by omega) (by omega)) a4 (fun x _ h => hF x h) hF (fun u t H1 locs1 ht _ hp hB hz hk hS => ?_)
  obtain ⟨b1, b2⟩ := hB
  rw [ht] at b1
  refine kk u hp ls H1 locs1 (cells + mc) (slots + ms) a1 (va_P.app (fun k x hx => ?_) b1) (va_D.app ⟨fun i j x y hx hy h => ?_, fun k x hx => ?_⟩ (b2.weaken (fun _ x _ h => hF x.1 h)) (fun i j x y hx hy h => ?_)) hS (by omega) (by omega)
  · obtain ⟨g1, g2⟩ := hold k x hx
    have hl : k < ws.length := (List.getElem?_eq_some_iff.mp hx).1
    exact (a2 k x (by rw [List.getElem?_append_left hl]; exact hx)).kept (hk x.1 g1 g2)
  · exact a3.1 i j x y (by rw [List.getElem?_append_left (List.getElem?_eq_some_iff.mp hx).1]; exact hx) (by rw [List.getElem?_append_left (List.getElem?_eq_some_iff.mp hy).1]; exact hy) h
  · exact a3.2 k x (by rw [List.getElem?_append_left (List.getElem?_eq_some_iff.mp hx).1]; exact hx)
  · obtain ⟨g1, g2⟩ := hold i x hx
    exact g2 (by rw [h]; exact b2.2 j y hy)
end ZV
/-- a constructor's contract -/
def zrm (f mc ms : Nat) : Room := { frames := f, cells := mc, slots := ms, locals := 40 * f + 40 }
def zPc (D : va_G) (tf : Nat → ClassId) (h0 : Nat) (e0 : va_E) (sz : Nat) : Array Value → State → Prop := va_Pc [.ref h0] (fun U => U.heap.size = sz ∧ zT D tf U ∧ va_P D qcls [(h0, e0)] U.heap ∧ va_D (fun _ => True) [(h0, e0)])
def zM {S : Type} (l : Launch) (y : MethodName) (b : ByteArray) (mL f mc ms : Nat) (D : va_G) (tf : Nat → ClassId) (e0 : va_E) (post : S → Prop) (w : Nat → S → va_W) : Prop := ∀ (h0 sz : Nat), Met l y [.code y b mL none] (zrm f mc ms) (zPc D tf h0 e0 sz) (va_Qv post (fun u t => va_P D qcls (w h0 u) t.heap ∧ va_D (va_A [(h0, e0)] sz) (w h0 u)) (va_A [(h0, e0)] sz)) mc ms (va_A [(h0, e0)] sz)
section ZM
variable {p : Program} {l : Launch} {e : Env} {R : Room} {s : State} {m : MethodId} {args : Array Value} {below : List Frame} {meth : Method} {c : Code} {D : va_G} {tf : Nat → ClassId} {A : Nat → Prop} {nL : Nat} {Q : State → Prop} {LV : List (Nat × Value)} {cb sb pc : Nat} {st : List Value} {ws : va_W} {cc : ByteArray} {own : String}
theorem zPc_blind {h0 sz : Nat} {e0 : va_E} : FrameBlind (zPc D tf h0 e0 sz) := fun a U g mk q => by
  obtain ⟨q0, q1, q2, q3, q4⟩ := q
  exact ⟨q0, q1, q2.warm (by exact State.WarmedH.refl U), q3, q4⟩
/-- a constructor's walk gives its contract -/
theorem zM_of {S : Type} {y : MethodName} {b : ByteArray} {mL f mc ms : Nat} {e0 : va_E} {post : S → Prop} {w : Nat → S → va_W} (hy : plainName y.cls = true) (hn : y.name = "<init>") (hmL : 1 ≤ mL)
    (k : ∀ (p : Program) (e : Env) (s : State) (m : MethodId) (below : List Frame) (meth : Method) (c : Code) (h0 : Nat) (A : Nat → Prop), zC p s m c b mL y.cls D tf → meth.name = "<init>" → (∀ q, s.heap.size ≤ q → A q) → ∀ Q : State → Prop,
      (∀ (u : S) (pc : Nat) (ls : Array Slot) (H : Heap) (locs : List Loc) (cells slots : Nat), post u → va_P D qcls (w h0 u) H → va_D A (w h0 u) → va_S A s.heap H locs → decode b pc = .ok (.return_, 1) → cells ≤ mc → slots ≤ ms → W p l e (zrm f mc ms) s m #[.ref h0] below meth c H locs cells slots Q (F0 m pc ls [])) →
      zV p l e (zrm f mc ms) s m #[.ref h0] below meth c D A mL Q [(0, .ref h0)] mc ms 0 [] [(h0, e0)]) : zM l y b mL f mc ms D tf e0 post w := by
  intro h0 sz
  refine Met.ofW (cc := b) (maxL := mL) (ret := none) hy rfl ?_
  intro p e s m args below meth c s₁ B hml hv
  obtain ⟨rfl, hsz, hT, hP, hD0⟩ := hv
  have hx := B.exec
  have hb := B.bytes
  have hr := B.returns
  have hown : s.vm.findClass y.cls = some m.cls := findClass_of_methodNamed B.named
  have hlocks := B.notSynchronized
  have hin : meth.name = "<init>" := (name_of_methodNamed B.named B.method).1.trans hn
  subst hsz
  have hD := hD0.self (sz := s.heap.size)
  have hl := lv_entry ([.ref h0]) (n := mL) hmL
  rw [lg_entry_eq]
  generalize (lg_sl ([.ref h0]) ++ List.replicate (mL - (lg_sl ([.ref h0])).length) Slot.unset).toArray = ls at hl ⊢
  refine k p e s m below meth c h0 (va_A [(h0, e0)] s.heap.size) ⟨hx, hb, hml, hown, hT⟩ hin (fun q h => Or.inr h) _ ?_ ls s.heap [] 0 0 hl hP hD va_S.rf (by show 0 + mc ≤ mc; omega) (by show 0 + ms ≤ ms; omega)
  intro u pc ls1 H locs cells slots hp b1 b2 b3 d hc1 hc2
  refine W.widen (k := mc) (n := ms) hc1 hc2 ?_
  exact W.vret hx hb hr (fun t ht hW => ⟨⟨u, rfl, hp, by rw [ht]; exact b1, b2⟩, b3.F ht⟩) b3.2.2 d
/-- a call of a constructor: of a nest mate's private one; of a public one -/
theorem z_initN {S : Type} (C : zC p s m c cc nL own D tf) (hA : ∀ q, s.heap.size ≤ q → A q) {y : MethodName} {b : ByteArray} {mL f mc ms idx q : Nat} {host : String} {e0 : va_E} {post : S → Prop} {w : Nat → S → va_W} (hM : zM l y b mL f mc ms D tf e0 post w) (hw : Cond.code y b mL none ∈ qWA ∧ Cond.initialized y.cls ∈ qWA ∧ Cond.instanceMethod y ∈ qWA) (hcls : y.cls ≠ "java/lang/invoke/MethodHandle" ∧ y.cls ≠ "java/lang/invoke/VarHandle") (hd : (parseMethodDescriptor y.desc).map (fun d => d.parameters.length) = some 0) (hn : y.name = "<init>") (hl : Cond.methodLinkNest own idx y host ∈ qWA) (hR : f + 1 ≤ R.frames ∧ 8 + (mL + 11) + (40 * f + 40) ≤ R.locals) (hst : (st.map fun v => v.category).sum ≤ 8) (d : decode cc pc = .ok (.invokespecial idx, 3))
    (kk : ∀ u : S, post u → zV p l e R s m args below meth c D A nL Q LV cb sb (pc + 3) st (ws ++ w q u)) : zV p l e R s m args below meth c D A nL Q LV (cb + mc) (sb + ms) pc (.ref q :: st) (ws ++ [(q, e0)]) := by
  obtain ⟨hx, hb, hml, hown, hT⟩ := C
  refine z_after (a := #[.ref q]) hA (fun ls H locs cells slots a1 a2 a3 a4 a5 a6 => ?_) kk
  exact va_runIN (As := []) (rest := st) ⟨hx, hb, hml, hown, hT.ws (a := args)⟩ (hM q H.size) ⟨⟨⟨rfl, rfl, hR.1, hR.2, hT.word1 hw.1, List.mem_singleton.mpr rfl⟩, hT.w hw.1, hT.w hw.2.1, hcls, fun sig hs => by rw [hs] at hd; exact (Option.some.inj hd).symm, hT.w hl⟩, hn, hT.w hw.2.2⟩ ⟨zPc_blind, fun U hU hW => ⟨rfl, by rw [hU], hT.warm hW, by rw [hU]; exact fun k x hx => a2 (ws.length + k) x (by rw [List.getElem?_append_right (by omega), Nat.add_sub_cancel_left]; exact hx), ⟨fun i j x y hx hy _ => by
    have h1 := (List.getElem?_eq_some_iff.mp hx).1
    have h2 := (List.getElem?_eq_some_iff.mp hy).1
    simp only [List.length_cons, List.length_nil] at h1 h2
    omega, fun _ _ _ => trivial⟩⟩⟩ rfl rfl a1.1 rfl (lv_room hst) d ⟨a5, a6⟩
theorem z_init {S : Type} (C : zC p s m c cc nL own D tf) (hA : ∀ q, s.heap.size ≤ q → A q) {y : MethodName} {b : ByteArray} {mL f mc ms idx q : Nat} {e0 : va_E} {post : S → Prop} {w : Nat → S → va_W} (hM : zM l y b mL f mc ms D tf e0 post w) (hw : Cond.code y b mL none ∈ qWA ∧ Cond.initialized y.cls ∈ qWA ∧ Cond.instanceMethod y ∈ qWA) (hcls : y.cls ≠ "java/lang/invoke/MethodHandle" ∧ y.cls ≠ "java/lang/invoke/VarHandle") (hd : (parseMethodDescriptor y.desc).map (fun d => d.parameters.length) = some 0) (hn : y.name = "<init>") (hl : Cond.methodLink own idx y ∈ qWA) (hR : f + 1 ≤ R.frames ∧ 8 + (mL + 11) + (40 * f + 40) ≤ R.locals) (hst : (st.map fun v => v.category).sum ≤ 8) (d : decode cc pc = .ok (.invokespecial idx, 3))
    (kk : ∀ u : S, post u → zV p l e R s m args below meth c D A nL Q LV cb sb (pc + 3) st (ws ++ w q u)) : zV p l e R s m args below meth c D A nL Q LV (cb + mc) (sb + ms) pc (.ref q :: st) (ws ++ [(q, e0)]) := by
  obtain ⟨hx, hb, hml, hown, hT⟩ := C
  refine z_after (a := #[.ref q]) hA (fun ls H locs cells slots a1 a2 a3 a4 a5 a6 => ?_) kk
  exact va_runI (As := []) (rest := st) ⟨hx, hb, hml, hown, hT.ws (a := args)⟩ (hM q H.size) ⟨⟨rfl, rfl, hR.1, hR.2, hT.word1 hw.1, List.mem_singleton.mpr rfl, hT.w hw.1, hT.w hw.2.1, hcls, fun sig hs => by rw [hs] at hd; exact (Option.some.inj hd).symm, hT.w hl⟩, hn, hT.w hw.2.2⟩ ⟨zPc_blind, fun U hU hW => ⟨rfl, by rw [hU], hT.warm hW, by rw [hU]; exact fun k x hx => a2 (ws.length + k) x (by rw [List.getElem?_append_right (by omega), Nat.add_sub_cancel_left]; exact hx), ⟨fun i j x y hx hy _ => by
    have h1 := (List.getElem?_eq_some_iff.mp hx).1
    have h2 := (List.getElem?_eq_some_iff.mp hy).1
    simp only [List.length_cons, List.length_nil] at h1 h2
    omega, fun _ _ _ => trivial⟩⟩⟩ rfl rfl a1.1 rfl (lv_room hst) d ⟨a5, a6⟩
end ZM
section ZV2
variable {p : Program} {l : Launch} {e : Env} {R : Room} {s : State} {m : MethodId} {args : Array Value} {below : List Frame} {meth : Method} {c : Code} {D : va_G} {tf : Nat → ClassId} {A : Nat → Prop} {nL : Nat} {Q : State → Prop} {LV : List (Nat × Value)} {cb sb pc : Nat} {st : List Value} {ws : va_W} {cc : ByteArray} {own : String}
theorem zV.as {ws' : va_W} (h : ws' = ws) (k : zV p l e R s m args below meth c D A nL Q LV cb sb pc st ws) : zV p l e R s m args below meth c D A nL Q LV cb sb pc st ws' := h ▸ k
theorem z_istore (C : zC p s m c cc nL own D tf) {k : Fin 4} {i : Nat} {x : Int32} {lv' : List (Nat × Value)} (d : decode cc pc = .ok (.istore_n k, 1)) (hi : (k : Nat) = i) (hn : i < nL) (hl : (i, Value.int x) :: LV.filter (fun q => !(q.1 == i) && !(q.1 + 1 == i && q.2.category == 2)) = lv') (kk : zV p l e R s m args below meth c D A nL Q lv' cb sb (pc + 1) st ws) : zV p l e R s m args below meth c D A nL Q LV cb sb pc (.int x :: st) ws :=
  fun ls H locs cells slots a1 a2 a3 a4 a5 a6 => lv_istore_n C.1 C.2.1 d hi a1 hn hl (fun ls' b1 => kk ls' H locs cells slots b1 a2 a3 a4 a5 a6)
theorem z_iinc (C : zC p s m c cc nL own D tf) {i k : Nat} {n : Int} {x v : Int32} {lv' : List (Nat × Value)} (d : decode cc pc = .ok (.iinc i n, 3)) (hk : LV[k]? = some (i, .int x)) (hv : x + Int32.ofInt n = v) (hn : i < nL) (hl : (i, Value.int v) :: LV.filter (fun q => !(q.1 == i) && !(q.1 + 1 == i && q.2.category == 2)) = lv') (kk : zV p l e R s m args below meth c D A nL Q lv' cb sb (pc + 3) st ws) : zV p l e R s m args below meth c D A nL Q LV cb sb pc st ws :=
  fun ls H locs cells slots a1 a2 a3 a4 a5 a6 => lv_iinc C.1 C.2.1 d a1 hk hv hn hl (fun ls' b1 => kk ls' H locs cells slots b1 a2 a3 a4 a5 a6)
theorem z_ge_t (C : zC p s m c cc nL own D tf) {x y : Int32} {off : Int} (tgt : Nat) (d : decode cc pc = .ok (.if_icmp .ge off, 3)) (ht : (pc : Int) + off = (tgt : Int)) (h : y ≤ x) (kk : zV p l e R s m args below meth c D A nL Q LV cb sb tgt st ws) : zV p l e R s m args below meth c D A nL Q LV cb sb pc (.int y :: .int x :: st) ws :=
  fun ls H locs cells slots a1 a2 a3 a4 a5 a6 => lv_icmp_ge C.1 C.2.1 d ht (fun _ => kk ls H locs cells slots a1 a2 a3 a4 a5 a6) (fun h2 => absurd h h2)
theorem z_ge_f (C : zC p s m c cc nL own D tf) {x y : Int32} {off : Int} (tgt : Nat) (d : decode cc pc = .ok (.if_icmp .ge off, 3)) (ht : (pc : Int) + off = (tgt : Int)) (h : ¬ y ≤ x) (kk : zV p l e R s m args below meth c D A nL Q LV cb sb (pc + 3) st ws) : zV p l e R s m args below meth c D A nL Q LV cb sb pc (.int y :: .int x :: st) ws :=
  fun ls H locs cells slots a1 a2 a3 a4 a5 a6 => lv_icmp_ge C.1 C.2.1 d ht (fun h2 => absurd h2 h) (fun _ => kk ls H locs cells slots a1 a2 a3 a4 a5 a6)
theorem z_goto (C : zC p s m c cc nL own D tf) {off : Int} (tgt : Nat) (d : decode cc pc = .ok (.goto off, 3)) (ht : (pc : Int) + off = (tgt : Int)) (kk : zV p l e R s m args below meth c D A nL Q LV cb sb tgt st ws) : zV p l e R s m args below meth c D A nL Q LV cb sb pc st ws :=
  fun ls H locs cells slots a1 a2 a3 a4 a5 a6 => lv_goto C.1 C.2.1 d ht (kk ls H locs cells slots a1 a2 a3 a4 a5 a6)
theorem z_iadd (C : zC p s m c cc nL own D tf) {x y : Int32} (z : Int32) (hz : x + y = z) (d : decode cc pc = .ok (.iadd, 1)) (kk : zV p l e R s m args below meth c D A nL Q LV cb sb (pc + 1) (.int z :: st) ws) : zV p l e R s m args below meth c D A nL Q LV cb sb pc (.int y :: .int x :: st) ws :=
  fun ls H locs cells slots a1 a2 a3 a4 a5 a6 => lv_iadd C.1 C.2.1 d (hz ▸ kk ls H locs cells slots a1 a2 a3 a4 a5 a6)
theorem z_iast (C : zC p s m c cc nL own D tf) (q0 : Nat) {a n : Nat} {f : Nat → Int32} {i x : Int32} (ha : ws[q0]? = some (a, .inl (tf 0, n, .inl f))) (hin : vp_in i n) (d : decode cc pc = .ok (.iastore, 1)) (kk : zV p l e R s m args below meth c D A nL Q LV cb sb (pc + 1) st (ws.set q0 (a, .inl (tf 0, n, .inl (upd f i.toNatClampNeg x))))) : zV p l e R s m args below meth c D A nL Q LV cb sb pc (.int x :: .int i :: .ref a :: st) ws :=
  fun ls H locs cells slots a1 a2 a3 a4 a5 a6 => va_iast C.1 C.2.1 C.2.2.2.2.1 a2 a3 a4 q0 0 ha rfl hin d (fun H1 locs1 b1 b2 b3 => kk ls H1 locs1 cells slots a1 b1 b2 b3 a5 a6)
theorem z_alen (C : zC p s m c cc nL own D tf) (q0 t0 : Nat) {a : Nat} {x : vp_A} {ty : FieldType} {v : Int32} (ha : ws[q0]? = some (a, .inl (tf t0, x))) (ht : [(tf 0, FieldType.int), (tf 1, .char), (tf 2, .object RX5), (tf 3, .object RX1), (tf 4, .boolean), (tf 5, .array .int), (tf 6, .byte)][t0]? = some (tf t0, ty)) (hv : Int32.ofNat x.1 = v) (d : decode cc pc = .ok (.arraylength, 1)) (kk : zV p l e R s m args below meth c D A nL Q LV cb sb (pc + 1) (.int v :: st) ws) : zV p l e R s m args below meth c D A nL Q LV cb sb pc (.ref a :: st) ws :=
  fun ls H locs cells slots a1 a2 a3 a4 a5 a6 => va_alen C.1 C.2.1 C.2.2.2.2.1 a2 q0 t0 ha ht hv d (kk ls H locs cells slots a1 a2 a3 a4 a5 a6)
theorem z_astq (C : zC p s m c cc nL own D tf) (q0 t0 qk ci : Nat) {a n v : Nat} {r : vw_C} {vs : List Value} {f : Nat → Option Nat} {i : Int32} (ha : ws[q0]? = some (a, .inl (tf t0, n, .inr (.inr (.inr (.inr f)))))) (ht : [(tf 0, FieldType.int), (tf 1, .char), (tf 2, .object RX5), (tf 3, .object RX1), (tf 4, .boolean), (tf 5, .array .int), (tf 6, .byte)][t0]? = some (tf t0, .object r.1)) (hv : ws[qk]? = some (v, .inr (ci, vs))) (hc : qcls[ci]? = some r) (hin : vp_in i n) (d : decode cc pc = .ok (.aastore, 1)) (kk : zV p l e R s m args below meth c D A nL Q LV cb sb (pc + 1) st (ws.set q0 (a, .inl (tf t0, n, .inr (.inr (.inr (.inr (va_up f i.toNatClampNeg (some v)))))))) ) : zV p l e R s m args below meth c D A nL Q LV cb sb pc (.ref v :: .int i :: .ref a :: st) ws :=
  fun ls H locs cells slots a1 a2 a3 a4 a5 a6 => va_astq C.1 C.2.1 C.2.2.2.2.1 a2 a3 a4 q0 t0 qk ci ha ht hv hc hin d (fun H1 locs1 b1 b2 b3 => kk ls H1 locs1 cells slots a1 b1 b2 b3 a5 a6)
theorem z_ret {S : Type} {f mc ms mL h0 : Nat} {b : ByteArray} {post : S → Prop} {w : Nat → S → va_W} {Q : State → Prop} (hend : ∀ (u : S) (pc : Nat) (ls : Array Slot) (H : Heap) (locs : List Loc) (cells slots : Nat), post u → va_P D qcls (w h0 u) H → va_D A (w h0 u) → va_S A s.heap H locs → decode b pc = .ok (.return_, 1) → cells ≤ mc → slots ≤ ms → W p l e (zrm f mc ms) s m args below meth c H locs cells slots Q (F0 m pc ls [])) (u : S) (hp : post u) (hw : ws = w h0 u) (d : decode b pc = .ok (.return_, 1)) : zV p l e (zrm f mc ms) s m args below meth c D A mL Q LV cb sb pc [] ws := by
  intro ls H locs cells slots a1 a2 a3 a4 a5 a6
  subst hw
  exact hend u pc ls H locs cells slots hp a2 a3 a4 d (by have h : cells + cb ≤ mc := a5; omega) (by have h : slots + sb ≤ ms := a6; omega)
theorem zV.run {ls : Array Slot} (k : zV p l e R s m args below meth c D A nL Q LV cb sb 0 [] ws) (hl : lv_has ls nL LV) (hP : va_P D qcls ws s.heap) (hD : va_D A ws) (h1 : cb ≤ R.cells) (h2 : sb ≤ R.slots) : W p l e R s m args below meth c s.heap [] 0 0 Q (F0 m 0 ls []) := k ls s.heap [] 0 0 hl hP hD va_S.rf (by omega) (by omega)
end ZV2
