/-! handlers; methods with a table; calls of them -/
section QH
variable {p : Program} {l : Launch} {e : Env} {R : Room} {s : State} {m : MethodId} {args : Array Value} {below : List Frame} {meth : Method} {c : Code} {g : qG} {nL : Nat} {Qf : qO → State → Prop} {o : Option qO} {cb sb pc : Nat} {L : List (Option qA)} {st : List qA} {σ : qS} {cc : ByteArray} {own : String}
theorem qLs.drop1 {ls : Array Slot} {i : Nat} {v : qA} (h : qLs g ls nL (L.set i (some v))) : qLs g ls nL (L.set i none) := h.weak (fun j w hj => by
  by_cases hij : i = j
  · subst hij
    have hlt : i < L.length := by
      have := (List.getElem?_eq_some_iff.mp hj).1
      simpa using this
    rw [List.getElem?_set_self hlt] at hj
    cases hj
  · rw [List.getElem?_set_ne hij] at hj ⊢
    exact hj)
theorem qVX_catch (C : qC p l s m meth c cc nL own g) {hh : List (Nat × Nat × Nat × Nat)} (htab : c.exceptionTable.toList = tableOf hh) (pre suf : List (Nat × Nat × Nat × Nat)) {x : Nat × Nat × Nat × Nat} {E : String} (hsplit : hh = pre ++ x :: suf) (hpass : ∀ z ∈ pre, z.2.2.2 ≠ 0 ∧ ∃ nm : String, Cond.classLink own z.2.2.2 nm ∈ qWA ∧ (E, nm) ∈ qncs) (hcov : covers ⟨x.1, x.2.1, x.2.2.1, x.2.2.2⟩ pc = true) (hct : x.2.2.2 ≠ 0) (hlink : Cond.classLink own x.2.2.2 E ∈ qWA) (hcast : Cond.castable E E ∈ qWA)
    {i n : Nat} (hd : (decode cc x.2.2.1 = .ok (.astore i, 2) ∧ n = 2) ∨ ∃ k0 : Fin 4, decode cc x.2.2.1 = .ok (.astore_n k0, 1) ∧ (k0 : Nat) = i ∧ n = 1) (hi : i < nL) (hk : qok1 L i = true) (k : qV p l e R s m args below meth c g nL Qf o cb sb (x.2.2.1 + n) (L.set i none) [] σ) : qVX p l e R s m args below meth c g nL Qf o cb sb pc L st σ E := by
  intro r hr ls H locs cells slots ce q9 h1 h2 h3 h4 h5 hce hcv hcl
  obtain ⟨hx0, hb, hml, hown, hE, -, -⟩ := C
  refine vx_catch hown (tableOf pre) ⟨x.1, x.2.1, x.2.2.1, x.2.2.2⟩ (tableOf suf) (by rw [htab, hsplit]; simp [tableOf]) ?_ hcov hct (qword hE.1 hlink) (qword hE.1 hcast) hce hcv hcl ?_
  · intro z hz
    obtain ⟨w, hw, rfl⟩ := List.mem_map.mp hz
    obtain ⟨h7, nm, h8, h9⟩ := hpass w hw
    exact Or.inr ⟨h7, nm, qword hE.1 h8, hE.1.2.2.2.2.1 _ h9⟩
  · rcases hd with ⟨hd, rfl⟩ | ⟨k0, hd, rfl, rfl⟩
    · exact lv_astore hx0 hb hd h1 hi rfl (fun ls' hl' => k r hr ls' H locs cells slots (qLs.drop1 (qLs.store (v := .inl (.ref q9)) hk rfl hl')) h2 h3 h4 h5)
    · exact lv_astore_n hx0 hb hd rfl h1 hi rfl (fun ls' hl' => k r hr ls' H locs cells slots (qLs.drop1 (qLs.store (v := .inl (.ref q9)) hk rfl hl')) h2 h3 h4 h5)
theorem qVX_no {E : String} : qVX p l e R s m args below meth c g nL Qf none cb sb pc L st σ E := fun r hr => by cases hr
/-- handlers chosen by the class of what is thrown -/
theorem qVX_if {E E1 : String} {o1 o2 : Option qO} (h1 : qVX p l e R s m args below meth c g nL Qf o1 cb sb pc L st σ E1) (h2 : qVX p l e R s m args below meth c g nL Qf o2 cb sb pc L st σ E) : qVX p l e R s m args below meth c g nL Qf (if E = E1 then o1 else o2) cb sb pc L st σ E := by
  by_cases h : E = E1
  · rw [if_pos h, h]; exact h1
  · rw [if_neg h]; exact h2
theorem qM_ofH {d mc ms maxL : Nat} {cc : ByteArray} {y : MethodName} {ret : Option FieldType} {hh : List (Nat × Nat × Nat × Nat)} {As : List qA} {o : Option qO} (hy : plainName y.cls = true) (hl : l.stackTraces = false) (hc : ∀ a ∈ As, qcat a = 1) (hlen : As.length ≤ maxL)
    (body : ∀ (p : Program) (e : Env) (s : State) (m : MethodId) (args : Array Value) (below : List Frame) (meth : Method) (c : Code), qC p l s m meth c cc maxL y.cls g → meth.sig.returnType = ret → c.exceptionTable.toList = tableOf hh → qV p l e (qrm d mc ms) s m args below meth c g maxL (qQf g below args s (qrm d mc ms)) o mc ms 0 (qL0 maxL As) [] σ) :
    qM g l d mc ms (.codeWith y cc maxL ret hh) y As σ o := by
  intro r hr
  refine vx_ofWH (cc := cc) (maxL := maxL) (ret := ret) (hh := hh) hy rfl ?_
  intro p e s m args below meth c s₁ B hml hv
  obtain ⟨rfl, hE, hH⟩ := hv
  have hC : qC p l s m meth c cc maxL y.cls g := ⟨B.exec, B.bytes, hml, findClass_of_methodNamed B.named, hE, hl, B.notSynchronized⟩
  have ht := vx_table (x := y) B (atoms_spec (ws := [Cond.codeWith y cc maxL ret hh]) B.pre _ List.mem_cons_self)
  have K := body p e s m (List.map (qcv g) As).toArray below meth c hC B.returns ht r hr
  rw [lg_entry_eq]
  refine K _ _ [] 0 0 ?_ hH va_S.rf (by simp) (by simp)
  have h0 := lv_entry (As.map (qcv g)) (n := maxL) (by rw [qlg_len g As hc]; exact hlen)
  refine ⟨h0.1, h0.2.1, fun q hq => ?_⟩
  obtain ⟨i, v, e1, e2, e3⟩ := qlc_mem g _ 0 q hq
  have h4 := qlv_args g As 0 i v hc (qL0_get e2)
  have h5 := h0.2.2 _ h4
  rw [e1, e3]
  exact h5
/-- a method with a table that may be called -/
def qMwH (y : MethodName) (b : ByteArray) (mL n : Nat) (ret : Option FieldType) (hh : List (Nat × Nat × Nat × Nat)) : Prop :=
  Cond.codeWith y b mL ret hh ∈ qWA ∧ Cond.initialized y.cls ∈ qWA ∧ (y.cls ≠ "java/lang/invoke/MethodHandle" ∧ y.cls ≠ "java/lang/invoke/VarHandle") ∧ (parseMethodDescriptor y.desc).map (fun d => d.parameters.length) = some n
theorem qv_callSH (C : qC p l s m meth c cc nL own g) {idx mL n d mc ms : Nat} {y : MethodName} {b : ByteArray} {ret : Option FieldType} {hh : List (Nat × Nat × Nat × Nat)} {As rest : List qA} {o1 : Option qO} {kv : Option qA → qS → Option qO} (hM : qM g l d mc ms (.codeWith y b mL ret hh) y As σ o1) (hw : qMwH y b mL n ret hh) (hl : Cond.methodLink own idx y ∈ qWA) (hstt : Cond.static y ∈ qWA) (hn : As.length = n) (hrest : (rest.map qcat).sum ≤ 8) (hR : d + 11 ≤ R.frames ∧ 8 + (mL + 11) + (64 * d + 1000) ≤ R.locals) (dd : decode cc pc = .ok (.invokestatic idx, 3)) (hst : st = As.reverse ++ rest) (k : ∀ (v : Option qA) (σ1 : qS), qV p l e R s m args below meth c g nL Qf (kv v σ1) cb sb (pc + 3) L (v.toList ++ rest) σ1) : qV p l e R s m args below meth c g nL Qf (qbind o1 kv qE0) (mc + cb) (ms + sb) pc L st σ := by
  subst hst
  intro r hr ls H locs cells slots h1 h2 h3 h4 h5
  match o1, hM, hr with
  | none, _, hr => cases hr
  | some (.inr E, σ1), _, hr => cases hr
  | some (.inl v, σ1), hM, hr =>
    have hrun : vx_Run p l e R s m args below meth c H locs cells slots mc ms (F0 m pc ls ((As.reverse ++ rest).map (qcv g))) (rest.map (qcv g)) (qQ g (.inl v, σ1) (As.map (qcv g)).toArray) (qX g (.inl v, σ1)) (qAf g) := by
      obtain ⟨hx0, hb, hml, hown, hE, -, -⟩ := C
      obtain ⟨w1, w2, w3, w4⟩ := hw
      exact vx_runSX (As := As.map (qcv g)) (rest := rest.map (qcv g)) (n := n) (index := idx) ⟨hx0, hb, hml, hown, qwords (a := args) hE.1⟩ (hM _ rfl)
        ⟨⟨rfl, rfl, by show d + 10 + 1 ≤ _; omega, hR.2, qword1 hE.1 w1, List.mem_singleton.mpr rfl⟩, qword hE.1 w1, qword hE.1 w2, w3, fun sig hs => (by rw [hs] at w4; exact (Option.some.inj w4).symm), qword hE.1 hl, qword hE.1 hstt⟩
        ⟨qPc_blind, fun U hU hW => ⟨rfl, hE.go hW h3 hU, by rw [hU]; exact h2⟩⟩ rfl (by rw [List.length_map]; exact hn) h1.1 (by rw [List.map_append, List.map_reverse]) (qroom hrest) dd ⟨by omega, by omega⟩
    refine qv_core hrun h3 (fun v2 hv2 H1 locs1 hb1 hS1 => ?_) (fun E hE2 => ?_)
    · cases hv2
      rw [qv_map]
      exact k v σ1 r hr ls H1 locs1 _ _ h1 hb1 hS1 (by omega) (by omega)
    · cases hE2
end QH
