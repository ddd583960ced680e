/-! CONTRACTS of methods that make what stays: names are bound anew; their calls -/
def qQg (D Rs : List (Nat × Nat)) (g : qG) (r : qO) : Array Value → State → Outcome → State → Prop := fun _ st oc t => (∃ (v : Option qA) (g1 : qG), r.1 = .inl v ∧ oc = .returned (v.map (qcv g1)) ∧ qEv D g g1 ∧ (∀ q ∈ Rs, q ∈ qX9 g1) ∧ qH g1 r.2 t.heap) ∧ va_F (qAf g) st t
/-- THE CONTRACT: whatever outcome o names, that is how it ends; names of D may be bound anew, those of Rs are held -/
def qMg (D Rs : List (Nat × Nat)) (g : qG) (l : Launch) (d mc ms : Nat) (w : Cond) (y : MethodName) (As : List qA) (σ : qS) (o : Option qO) : Prop := ∀ r : qO, o = some r → Met l y [w] (qrm d mc ms) (qPc g As σ) (qQg D Rs g r) mc ms (qAf g)
def qQfg (D Rs : List (Nat × Nat)) (g : qG) (below : List Frame) (args : Array Value) (s : State) (R : Room) : qO → State → Prop := fun r => MQ below (qQg D Rs g r) args s R.cells R.slots (qAf g)
section QGV
variable {p : Program} {l : Launch} {e : Env} {R : Room} {s : State} {m : MethodId} {args : Array Value} {below : List Frame} {meth : Method} {c : Code} {g g0 : qG} {nL : Nat} {Qf : qO → State → Prop} {o : Option qO} {cb sb pc : Nat} {L : List (Option qA)} {st : List qA} {σ : qS} {cc : ByteArray} {own : String} {D Rs : List (Nat × Nat)}
theorem qMg_of {d mc ms maxL : Nat} {cc : ByteArray} {y : MethodName} {ret : Option FieldType} {As : List qA} {o : Option qO} (hy : plainName y.cls = true) (hl : l.stackTraces = false) (hc : ∀ a ∈ As, qcat a = 1) (hlen : As.length ≤ maxL)
    (body : ∀ (p : Program) (e : Env) (s : State) (m : MethodId) (args : Array Value) (below : List Frame) (meth : Method) (c : Code), qC p l s m meth c cc maxL y.cls g → meth.sig.returnType = ret → meth.name = y.name → qV p l e (qrm d mc ms) s m args below meth c g maxL (qQfg D Rs g below args s (qrm d mc ms)) o mc ms 0 (qL0 maxL As) [] σ) :
    qMg D Rs g l d mc ms (.code y cc maxL ret) y As σ o := by
  intro r hr
  refine Met.ofW (cc := cc) (maxL := maxL) (ret := ret) hy rfl ?_
  intro p e s m args below meth c s₁ B hml hv
  obtain ⟨rfl, hE, hH⟩ := hv
  have hC : qC p l s m meth c cc maxL y.cls g := ⟨B.exec, B.bytes, hml, findClass_of_methodNamed B.named, hE, hl, B.notSynchronized⟩
  have K := body p e s m (List.map (qcv g) As).toArray below meth c hC B.returns (name_of_methodNamed B.named B.method).1 r hr
  rw [lg_entry_eq]
  refine K _ _ [] 0 0 ?_ hH va_S.rf (by simp) (by simp)
  have h0 := lv_entry (As.map (qcv g)) (n := maxL) (by rw [qlg_len g As hc]; exact hlen)
  refine ⟨h0.1, h0.2.1, fun q hq => ?_⟩
  obtain ⟨i, v, e1, e2, e3⟩ := qlc_mem g _ 0 q hq
  have h4 := qlv_args g As 0 i v hc (qL0_get e2)
  have h5 := h0.2.2 _ h4
  rw [e1, e3]
  exact h5
theorem qret_g {t : State} {H : Heap} {locs : List Loc} {v : Option qA} {σ : qS} (G : qEv D g0 g) (hR : ∀ q ∈ Rs, q ∈ qX9 g) (h2 : qH g σ H) (h3 : va_S (qAf g) s.heap H locs) (ht : t.heap = H) : qQg D Rs g0 (.inl v, σ) args s (.returned (v.map (qcv g))) t := ⟨⟨v, g, rfl, rfl, G, hR, by rw [ht]; exact h2⟩, by rw [← G.Af]; exact h3.F ht⟩
theorem qg_aret (C : qC p l s m meth c cc nL own g) (G : qEv D g0 g) (hR : ∀ q ∈ Rs, q ∈ qX9 g) {rt : FieldType} (hr : meth.sig.returnType = some rt) (hrt : (∃ n, rt = .object n) ∨ ∃ t, rt = .array t) {a : Nat × Nat} (d : decode cc pc = .ok (.areturn, 1)) : qV p l e R s m args below meth c g nL (qQfg D Rs g0 below args s R) (some (.inl (some (.inr a)), σ)) cb sb pc L [.inr a] σ := by
  intro r h0 ls H locs cells slots h1 h2 h3 h4 h5
  cases h0
  obtain ⟨hx0, hb, hml, hown, hE, -, hlk⟩ := C
  exact W.widen (by omega) (by omega) (W.aret (v := qcv g (.inr a)) hx0 hb hr hrt (Or.inr ⟨_, rfl⟩) (fun t ht hW => qret_g (v := some (.inr a)) G hR h2 h3 ht) (by rw [← G.Af]; exact h3.2.2) d hlk)
theorem qg_vret (C : qC p l s m meth c cc nL own g) (G : qEv D g0 g) (hR : ∀ q ∈ Rs, q ∈ qX9 g) (hr : meth.sig.returnType = none) (d : decode cc pc = .ok (.return_, 1)) : qV p l e R s m args below meth c g nL (qQfg D Rs g0 below args s R) (some (.inl none, σ)) cb sb pc L [] σ := by
  intro r h0 ls H locs cells slots h1 h2 h3 h4 h5
  cases h0
  obtain ⟨hx0, hb, hml, hown, hE, -, hlk⟩ := C
  exact W.widen (by omega) (by omega) (W.vret hx0 hb hr (fun t ht hW => qret_g (v := none) G hR h2 h3 ht) (by rw [← G.Af]; exact h3.2.2) d hlk)
theorem qg_zret! (C : qC p l s m meth c cc nL own g) (G : qEv D g0 g) (hR : ∀ q ∈ Rs, q ∈ qX9 g) {ty : FieldType} (hr : meth.sig.returnType = some ty) {x : Int32} (hn : narrow ty (.int x) = .int x) (d : decode cc pc = .ok (.ireturn, 1)) : qV p l e R s m args below meth c g nL (qQfg D Rs g0 below args s R) (some (.inl (some (qI x)), σ)) cb sb pc L [qI x] σ := by
  intro r h0 ls H locs cells slots h1 h2 h3 h4 h5
  cases h0
  obtain ⟨hx0, hb, hml, hown, hE, -, hlk⟩ := C
  exact W.widen (by omega) (by omega) (W.zret hx0 hb hr hn (fun t ht hW => qret_g (v := some (qI x)) G hR h2 h3 ht) (by rw [← G.Af]; exact h3.2.2) d hlk)
theorem qg_bret (C : qC p l s m meth c cc nL own g) (G : qEv D g0 g) (hR : ∀ q ∈ Rs, q ∈ qX9 g) (hr : meth.sig.returnType = some .boolean) {x : Int32} (d : decode cc pc = .ok (.ireturn, 1)) : qV p l e R s m args below meth c g nL (qQfg D Rs g0 below args s R) (if qbo x then some (.inl (some (qI x)), σ) else none) cb sb pc L [qI x] σ := by
  by_cases h : qbo x
  · rw [if_pos h]; exact qg_zret! C G hR hr (qbo_nar h) d
  · rw [if_neg h]; exact qV.no
/-- after such a call -/
theorem qv_coreg {H : Heap} {locs : List Loc} {cells slots mc ms : Nat} {Q : State → Prop} {ls : Array Slot} {st0 rest : List Value} {r1 : qO} {a : Array Value} (hr : va_Run p l e R s m args below meth c H locs cells slots mc ms (F0 m pc ls st0) rest (qQg D Rs g r1 a) (qAf g)) (hS : va_S (qAf g) s.heap H locs)
    (kv : ∀ (v : Option qA) (g1 : qG), r1.1 = .inl v → qEv D g g1 → (∀ q ∈ Rs, q ∈ qX9 g1) → ∀ (H1 : Heap) (locs1 : List Loc), qH g1 r1.2 H1 → va_S (qAf g) s.heap H1 locs1 → W p l e R s m args below meth c H1 locs1 (cells + mc) (slots + ms) Q (F0 m (pc + 3) ls ((v.map (qcv g1)).toList ++ rest))) :
    W p l e R s m args below meth c H locs cells slots Q (F0 m pc ls st0) := by
  intro T hT X
  obtain ⟨v, st₀, t, T', L', h0, X', hL, e1, e2, ⟨⟨v2, g1, hv, hv2, hEv, hRs, hb⟩, hF⟩, st⟩ := hr T hT X
  cases hv2
  obtain ⟨k1, k2, k3⟩ := vx_keep h0 e1 hS (fun q _ h => h) (fun q h => h) hL hF
  obtain ⟨t2, a1, b1⟩ := kv v2 g1 hv hEv hRs T'.heap (locs ++ L') (by rw [e1]; exact hb) k3 T' rfl X'
  exact ⟨t2, st t2 a1, b1⟩
theorem qg_go {H1 : Heap} {locs1 : List Loc} {cells slots mc ms : Nat} {g1 : qG} {ls : Array Slot} {r : qO} {v : Option qA} {σ1 : qS} {rest : List qA} {kv : Option qA → qS → Option qO} (C : qC p l s m meth c cc nL own g) (hr : kv v σ1 = some r) (h1 : qLs g ls nL L) (hL : qfL D L) (hS : qfS D rest) (E : qEv D g g1) (hRs : ∀ q ∈ Rs, q ∈ qX9 g1) (hb1 : qH g1 σ1 H1) (hS1 : va_S (qAf g) s.heap H1 locs1) (h4 : cells + mc + cb ≤ R.cells) (h5 : slots + ms + sb ≤ R.slots)
    (k : ∀ (v : Option qA) (σ1 : qS) (g1 : qG), qC p l s m meth c cc nL own g1 → qEv D g g1 → (∀ q ∈ Rs, q ∈ qX9 g1) → qV p l e R s m args below meth c g1 nL Qf (kv v σ1) cb sb (pc + 3) L (v.toList ++ rest) σ1) : W p l e R s m args below meth c H1 locs1 (cells + mc) (slots + ms) (Qf r) (F0 m (pc + 3) ls ((v.map (qcv g1)).toList ++ rest.map (qcv g))) := by
  rw [← E.map hS, qv_map]
  exact k v σ1 g1 (E.C C) E hRs r hr ls H1 locs1 _ _ (E.Ls hL h1) hb1 (by rw [E.Af]; exact hS1) h4 h5
/-- a static call -/
theorem qg_callS (C : qC p l s m meth c cc nL own g) {idx mL n d mc ms : Nat} {y : MethodName} {b : ByteArray} {ret : Option FieldType} {As rest : List qA} {o1 : Option qO} {kv : Option qA → qS → Option qO} (hM : qMg D Rs g l d mc ms (.code y b mL ret) y As σ o1) (hw : qMw y b mL n ret) (hl : Cond.methodLink own idx y ∈ qWA) (hstt : Cond.static y ∈ qWA) (hL : qfL D L) (hS : qfS D rest) (hn : As.length = n) (hrest : (rest.map qcat).sum ≤ 8) (hR : d + 11 ≤ R.frames ∧ 8 + (mL + 11) + (64 * d + 1000) ≤ R.locals) (dd : decode cc pc = .ok (.invokestatic idx, 3)) (hst : st = As.reverse ++ rest) (k : ∀ (v : Option qA) (σ1 : qS) (g1 : qG), qC p l s m meth c cc nL own g1 → qEv D g g1 → (∀ q ∈ Rs, q ∈ qX9 g1) → qV p l e R s m args below meth c g1 nL Qf (kv v σ1) cb sb (pc + 3) L (v.toList ++ rest) σ1) : qV p l e R s m args below meth c g nL Qf (qbind o1 kv qE0) (mc + cb) (ms + sb) pc L st σ := by
  subst hst
  intro r hr ls H locs cells slots h1 h2 h3 h4 h5
  match o1, hM, hr with
  | none, _, hr => cases hr
  | some (.inr E, σ1), _, hr => cases hr
  | some (.inl v, σ1), hM, hr =>
    have C' := C
    obtain ⟨hx0, hb, hml, hown, hE, -, -⟩ := C
    refine qv_coreg (va_runS (As := As.map (qcv g)) (rest := rest.map (qcv g)) ⟨hx0, hb, hml, hown, qwords (a := args) hE.1⟩ (hM _ rfl) ⟨qCallB hE.1 hw hl hR, qword hE.1 hstt⟩ ⟨qPc_blind, fun U hU hW => ⟨rfl, hE.go hW h3 hU, by rw [hU]; exact h2⟩⟩ rfl (by rw [List.length_map]; exact hn) h1.1 (by rw [List.map_append, List.map_reverse]) (qroom hrest) dd ⟨by omega, by omega⟩) h3 (fun v2 g1 hv2 E hRs H1 locs1 hb1 hS1 => ?_)
    cases hv2
    exact qg_go C' hr h1 hL hS E hRs hb1 hS1 (by omega) (by omega) k
/-- the cell of a builder, of a text -/
theorem qocell (h : qKt g s) {H : Heap} {K KB ci j : Nat} {C0 : String} {T : u_T} (ho : qob K KB ci) (hm : (K, j) ∈ qX9 g) (h2 : qH g σ H) (hc : qcls[ci]? = some (C0, T, 4)) : ∃ cellB : Cell, H[g.2.2.1 K j]? = some cellB ∧ cellB.vm.isStatics = false ∧ s.vm.findClass C0 = some cellB.cls := by
  obtain ⟨q0, -, hq⟩ := qws_in g σ (List.mem_append_right qcl hm)
  rw [qob_ent ho] at hq
  exact va_recv h.1 h2.1 hc hq
theorem qscell (h : qE g s s.heap) {H : Heap} {locs : List Loc} {K j : Nat} (hs : qSt g K j) (h2 : qH g σ H) (h3 : va_S (qAf g) s.heap H locs) : ∃ cellB : Cell, H[g.2.2.1 K j]? = some cellB ∧ cellB.vm.isStatics = false ∧ s.vm.findClass RJ0 = some cellB.cls := by
  rcases hs with ⟨rfl, hj⟩ | ⟨rfl, hm, -⟩
  · obtain ⟨cell, e1, e2, e3, -⟩ := (h.2.2.1 j hj).1.kept h3.2.1
    exact ⟨cell, e1, e2, e3⟩
  · exact qocell h.1 (Or.inl ⟨rfl, rfl, rfl⟩) hm h2 rfl
/-- a virtual call on a builder, of its own class's method -/
theorem qg_callV (C : qC p l s m meth c cc nL own g) {idx mL n d mc ms j : Nat} {y : MethodName} {b : ByteArray} {ret : Option FieldType} {As rest : List qA} {o1 : Option qO} {kv : Option qA → qS → Option qO} (hM : qMg D Rs g l d mc ms (.code y b mL ret) y (qR 62 j :: As) σ o1) (hw : qMw y b mL n ret) (hl : Cond.methodLink own idx y ∈ qWA) (hin : Cond.instanceMethod y ∈ qWA) (hse : Cond.selects RJ4 y y ∈ qWA) (hm : (62, j) ∈ qX9 g) (hL : qfL D L) (hS : qfS D rest) (hn : As.length = n) (hrest : (rest.map qcat).sum ≤ 8) (hR : d + 11 ≤ R.frames ∧ 8 + (mL + 11) + (64 * d + 1000) ≤ R.locals) (dd : decode cc pc = .ok (.invokevirtual idx, 3)) (hst : st = As.reverse ++ qR 62 j :: rest) (k : ∀ (v : Option qA) (σ1 : qS) (g1 : qG), qC p l s m meth c cc nL own g1 → qEv D g g1 → (∀ q ∈ Rs, q ∈ qX9 g1) → qV p l e R s m args below meth c g1 nL Qf (kv v σ1) cb sb (pc + 3) L (v.toList ++ rest) σ1) : qV p l e R s m args below meth c g nL Qf (qbind o1 kv qE0) (mc + cb) (ms + sb) pc L st σ := by
  subst hst
  intro r hr ls H locs cells slots h1 h2 h3 h4 h5
  match o1, hM, hr with
  | none, _, hr => cases hr
  | some (.inr E, σ1), _, hr => cases hr
  | some (.inl v, σ1), hM, hr =>
    have C' := C
    obtain ⟨hx0, hb, hml, hown, hE, -, -⟩ := C
    refine qv_coreg (va_runV (C := RJ4) (b := g.2.2.1 62 j) (As := As.map (qcv g)) (rest := rest.map (qcv g)) ⟨hx0, hb, hml, hown, qwords (a := args) hE.1⟩ (hM _ rfl) ⟨qCallB hE.1 hw hl hR, qword hE.1 hin, qword hE.1 hse⟩ ⟨qPc_blind, qocell hE.1 (Or.inr ⟨rfl, rfl, rfl⟩) hm h2 rfl, fun U hU hW => ⟨rfl, hE.go hW h3 hU, by rw [hU]; exact h2⟩⟩ rfl (by rw [List.length_map]; exact hn) h1.1 (by simp [qcv]) (qroom hrest) dd ⟨by omega, by omega⟩) h3 (fun v2 g1 hv2 E hRs H1 locs1 hb1 hS1 => ?_)
    cases hv2
    exact qg_go C' hr h1 hL hS E hRs hb1 hS1 (by omega) (by omega) k
/-- a constructor's call -/
theorem qg_callI (C : qC p l s m meth c cc nL own g) {idx mL n d mc ms K j : Nat} {y : MethodName} {b : ByteArray} {As rest : List qA} {o1 : Option qO} {kv : Option qA → qS → Option qO} (hM : qMg D Rs g l d mc ms (.code y b mL none) y (qR K j :: As) σ o1) (hw : qMw y b mL n none) (hl : Cond.methodLink own idx y ∈ qWA) (hin : Cond.instanceMethod y ∈ qWA) (hy : y.name = "<init>") (hL : qfL D L) (hS : qfS D rest) (hn : As.length = n) (hrest : (rest.map qcat).sum ≤ 8) (hR : d + 11 ≤ R.frames ∧ 8 + (mL + 11) + (64 * d + 1000) ≤ R.locals) (dd : decode cc pc = .ok (.invokespecial idx, 3)) (hst : st = As.reverse ++ qR K j :: rest) (k : ∀ (v : Option qA) (σ1 : qS) (g1 : qG), qC p l s m meth c cc nL own g1 → qEv D g g1 → (∀ q ∈ Rs, q ∈ qX9 g1) → qV p l e R s m args below meth c g1 nL Qf (kv v σ1) cb sb (pc + 3) L (v.toList ++ rest) σ1) : qV p l e R s m args below meth c g nL Qf (qbind o1 kv qE0) (mc + cb) (ms + sb) pc L st σ := by
  subst hst
  intro r hr ls H locs cells slots h1 h2 h3 h4 h5
  match o1, hM, hr with
  | none, _, hr => cases hr
  | some (.inr E, σ1), _, hr => cases hr
  | some (.inl v, σ1), hM, hr =>
    have C' := C
    obtain ⟨hx0, hb, hml, hown, hE, -, -⟩ := C
    refine qv_coreg (va_runI (b := g.2.2.1 K j) (As := As.map (qcv g)) (rest := rest.map (qcv g)) ⟨hx0, hb, hml, hown, qwords (a := args) hE.1⟩ (hM _ rfl) ⟨qCallB hE.1 hw hl hR, hy, qword hE.1 hin⟩ ⟨qPc_blind, fun U hU hW => ⟨rfl, hE.go hW h3 hU, by rw [hU]; exact h2⟩⟩ rfl (by rw [List.length_map]; exact hn) h1.1 (by simp [qcv]) (qroom hrest) dd ⟨by omega, by omega⟩) h3 (fun v2 g1 hv2 E hRs H1 locs1 hb1 hS1 => ?_)
    cases hv2
    exact qg_go C' hr h1 hL hS E hRs hb1 hS1 (by omega) (by omega) k
/-- a method that a builder's class inherits, or that is private above: what its call wants -/
def qMu (x y : MethodName) (b : ByteArray) (mL n : Nat) (ret : Option FieldType) : Prop :=
  Cond.code y b mL ret ∈ qWA ∧ Cond.initialized y.cls ∈ qWA ∧ (x.cls ≠ "java/lang/invoke/MethodHandle" ∧ x.cls ≠ "java/lang/invoke/VarHandle") ∧ (parseMethodDescriptor x.desc).map (fun d => d.parameters.length) = some n ∧ Cond.sameMethod x.cls x.cls x.name x.desc ∈ qWA ∧ (Cond.instanceMethod x ∈ qWA ∧ ∃ (b0 : ByteArray) (m0 : Nat) (r0 : Option FieldType), Cond.code x b0 m0 r0 ∈ qWA) ∧ Cond.selects RJ4 x y ∈ qWA ∧ Cond.instanceMethod y ∈ qWA
theorem qCU {idx mL n d mc ms : Nat} {x y : MethodName} {b : ByteArray} {ret : Option FieldType} (h : qKt g s) (hw : qMu x y b mL n ret) (hl : Cond.methodLink own idx x ∈ qWA) (hR : d + 11 ≤ R.frames ∧ 8 + (mL + 11) + (64 * d + 1000) ≤ R.locals) :
    va_CU R s args own RJ4 x.cls idx x y b mL ret [.code y b mL ret] (qrm d mc ms) mc ms n := by
  obtain ⟨h1, h2, h3, h4, h5, ⟨h6, b0, m0, r0, h7⟩, h8, h9⟩ := hw
  refine ⟨⟨rfl, rfl, by show d + 10 + 1 ≤ _; omega, hR.2, qword1 h h1, List.mem_singleton.mpr rfl⟩, qword h h1, qword h h2, h3, fun sig hs => ?_, qword h hl, qword h h5, va_Decl.of (args := args) (qword h h6) (qword h h7), qword h h8, qword h h9⟩
  rw [hs] at h4
  exact (Option.some.inj h4).symm
theorem qg_callU (C : qC p l s m meth c cc nL own g) {idx mL n d mc ms j : Nat} {x y : MethodName} {b : ByteArray} {ret : Option FieldType} {As rest : List qA} {o1 : Option qO} {kv : Option qA → qS → Option qO} (hM : qMg D Rs g l d mc ms (.code y b mL ret) y (qR 62 j :: As) σ o1) (hw : qMu x y b mL n ret) (hl : Cond.methodLink own idx x ∈ qWA) (hm : (62, j) ∈ qX9 g) (hL : qfL D L) (hS : qfS D rest) (hn : As.length = n) (hrest : (rest.map qcat).sum ≤ 8) (hR : d + 11 ≤ R.frames ∧ 8 + (mL + 11) + (64 * d + 1000) ≤ R.locals) (dd : decode cc pc = .ok (.invokevirtual idx, 3)) (hst : st = As.reverse ++ qR 62 j :: rest) (k : ∀ (v : Option qA) (σ1 : qS) (g1 : qG), qC p l s m meth c cc nL own g1 → qEv D g g1 → (∀ q ∈ Rs, q ∈ qX9 g1) → qV p l e R s m args below meth c g1 nL Qf (kv v σ1) cb sb (pc + 3) L (v.toList ++ rest) σ1) : qV p l e R s m args below meth c g nL Qf (qbind o1 kv qE0) (mc + cb) (ms + sb) pc L st σ := by
  subst hst
  intro r hr ls H locs cells slots h1 h2 h3 h4 h5
  match o1, hM, hr with
  | none, _, hr => cases hr
  | some (.inr E, σ1), _, hr => cases hr
  | some (.inl v, σ1), hM, hr =>
    have C' := C
    obtain ⟨hx0, hb, hml, hown, hE, -, -⟩ := C
    refine qv_coreg (va_runU (b := g.2.2.1 62 j) (As := As.map (qcv g)) (rest := rest.map (qcv g)) ⟨hx0, hb, hml, hown, qwords (a := args) hE.1⟩ (hM _ rfl) (qCU hE.1 hw hl hR) ⟨qPc_blind, qocell hE.1 (Or.inr ⟨rfl, rfl, rfl⟩) hm h2 rfl, fun U hU hW => ⟨rfl, hE.go hW h3 hU, by rw [hU]; exact h2⟩⟩ rfl (by rw [List.length_map]; exact hn) h1.1 (by simp [qcv]) (qroom hrest) dd ⟨by omega, by omega⟩) h3 (fun v2 g1 hv2 E hRs H1 locs1 hb1 hS1 => ?_)
    cases hv2
    exact qg_go C' hr h1 hL hS E hRs hb1 hS1 (by omega) (by omega) k
/-- such a call that binds nothing anew -/
theorem qv_callU (C : qC p l s m meth c cc nL own g) {idx mL n d mc ms j : Nat} {x y : MethodName} {b : ByteArray} {ret : Option FieldType} {As rest : List qA} {o1 : Option qO} {kv : Option qA → qS → Option qO} (hM : qM g l d mc ms (.code y b mL ret) y (qR 62 j :: As) σ o1) (hw : qMu x y b mL n ret) (hl : Cond.methodLink own idx x ∈ qWA) (hm : (62, j) ∈ qX9 g) (hn : As.length = n) (hrest : (rest.map qcat).sum ≤ 8) (hR : d + 11 ≤ R.frames ∧ 8 + (mL + 11) + (64 * d + 1000) ≤ R.locals) (dd : decode cc pc = .ok (.invokevirtual idx, 3)) (hst : st = As.reverse ++ qR 62 j :: rest) (k : ∀ (v : Option qA) (σ1 : qS), qV p l e R s m args below meth c g nL Qf (kv v σ1) cb sb (pc + 3) L (v.toList ++ rest) σ1) : qV p l e R s m args below meth c g nL Qf (qbind o1 kv qE0) (mc + cb) (ms + sb) pc L st σ := by
  subst hst
  intro r hr ls H locs cells slots h1 h2 h3 h4 h5
  match o1, hM, hr with
  | none, _, hr => cases hr
  | some (.inr E, σ1), _, hr => cases hr
  | some (.inl v, σ1), hM, hr =>
    have hrun : vx_Run p l e R s m args below meth c H locs cells slots mc ms (F0 m pc ls ((As.reverse ++ qR 62 j :: rest).map (qcv g))) (rest.map (qcv g)) (qQ g (.inl v, σ1) ((qR 62 j :: As).map (qcv g)).toArray) (qX g (.inl v, σ1)) (qAf g) := by
      obtain ⟨hx0, hb, hml, hown, hE, -, -⟩ := C
      exact qrun_of (va_runU (b := g.2.2.1 62 j) (As := As.map (qcv g)) (rest := rest.map (qcv g)) ⟨hx0, hb, hml, hown, qwords (a := args) hE.1⟩ (qM_met hM rfl) (qCU hE.1 hw hl hR) ⟨qPc_blind, qocell hE.1 (Or.inr ⟨rfl, rfl, rfl⟩) hm h2 rfl, fun U hU hW => ⟨rfl, hE.go hW h3 hU, by rw [hU]; exact h2⟩⟩ rfl (by rw [List.length_map]; exact hn) h1.1 (by simp [qcv]) (qroom hrest) dd ⟨by omega, by omega⟩)
    refine qv_core hrun h3 (fun v2 hv2 H1 locs1 hb1 hS1 => ?_) (fun E hE2 => ?_)
    · cases hv2
      rw [qv_map]
      exact k v σ1 r hr ls H1 locs1 _ _ h1 hb1 hS1 (by omega) (by omega)
    · cases hE2
/-- a call of a text's method -/
theorem qv_callT (C : qC p l s m meth c cc nL own g) {idx mL n d mc ms K j : Nat} {y : MethodName} {b : ByteArray} {ret : Option FieldType} {As rest : List qA} {o1 : Option qO} {kv : Option qA → qS → Option qO} (hM : qM g l d mc ms (.code y b mL ret) y (qR K j :: As) σ o1) (hw : qMw y b mL n ret) (hl : Cond.methodLink own idx y ∈ qWA) (hin : Cond.instanceMethod y ∈ qWA) (hse : Cond.selects RJ0 y y ∈ qWA) (hj : qSt g K j) (hn : As.length = n) (hrest : (rest.map qcat).sum ≤ 8) (hR : d + 11 ≤ R.frames ∧ 8 + (mL + 11) + (64 * d + 1000) ≤ R.locals) (dd : decode cc pc = .ok (.invokevirtual idx, 3)) (hst : st = As.reverse ++ qR K j :: rest) (k : ∀ (v : Option qA) (σ1 : qS), qV p l e R s m args below meth c g nL Qf (kv v σ1) cb sb (pc + 3) L (v.toList ++ rest) σ1) : qV p l e R s m args below meth c g nL Qf (qbind o1 kv qE0) (mc + cb) (ms + sb) pc L st σ := by
  subst hst
  intro r hr ls H locs cells slots h1 h2 h3 h4 h5
  match o1, hM, hr with
  | none, _, hr => cases hr
  | some (.inr E, σ1), _, hr => cases hr
  | some (.inl v, σ1), hM, hr =>
    have hrun : vx_Run p l e R s m args below meth c H locs cells slots mc ms (F0 m pc ls ((As.reverse ++ qR K j :: rest).map (qcv g))) (rest.map (qcv g)) (qQ g (.inl v, σ1) ((qR K j :: As).map (qcv g)).toArray) (qX g (.inl v, σ1)) (qAf g) := by
      obtain ⟨hx0, hb, hml, hown, hE, -, -⟩ := C
      exact vx_runV (C := RJ0) (b := g.2.2.1 K j) (As := As.map (qcv g)) (rest := rest.map (qcv g)) ⟨hx0, hb, hml, hown, qwords (a := args) hE.1⟩ (hM _ rfl) ⟨qCallB hE.1 hw hl hR, qword hE.1 hin, qword hE.1 hse⟩ ⟨qPc_blind, qscell hE hj h2 h3, fun U hU hW => ⟨rfl, hE.go hW h3 hU, by rw [hU]; exact h2⟩⟩ rfl (by rw [List.length_map]; exact hn) h1.1 (by simp [qcv]) (qroom hrest) dd ⟨by omega, by omega⟩
    refine qv_core hrun h3 (fun v2 hv2 H1 locs1 hb1 hS1 => ?_) (fun E hE2 => ?_)
    · cases hv2
      rw [qv_map]
      exact k v σ1 r hr ls H1 locs1 _ _ h1 hb1 hS1 (by omega) (by omega)
    · cases hE2
/-- super.m(..) on a builder -/
theorem qg_callP (C : qC p l s m meth c cc nL RJ4 g) {idx mL n d mc ms j : Nat} {y : MethodName} {b : ByteArray} {ret : Option FieldType} {As rest : List qA} {o1 : Option qO} {kv : Option qA → qS → Option qO} (hM : qMg D Rs g l d mc ms (.code y b mL ret) y (qR 62 j :: As) σ o1) (hw : qMw y b mL n ret) (hl : Cond.methodLink RJ4 idx y ∈ qWA) (hin : Cond.instanceMethod y ∈ qWA) (hsm : Cond.sameMethod y.cls y.cls y.name y.desc ∈ qWA ∧ Cond.superclass RJ4 y.cls ∈ qWA ∧ y.name ≠ "<init>" ∧ Cond.instantiable RJ4 4 ∈ qWA) (hm : (62, j) ∈ qX9 g) (hL : qfL D L) (hS : qfS D rest) (hn : As.length = n) (hrest : (rest.map qcat).sum ≤ 8) (hR : d + 11 ≤ R.frames ∧ 8 + (mL + 11) + (64 * d + 1000) ≤ R.locals) (dd : decode cc pc = .ok (.invokespecial idx, 3)) (hst : st = As.reverse ++ qR 62 j :: rest) (k : ∀ (v : Option qA) (σ1 : qS) (g1 : qG), qC p l s m meth c cc nL RJ4 g1 → qEv D g g1 → (∀ q ∈ Rs, q ∈ qX9 g1) → qV p l e R s m args below meth c g1 nL Qf (kv v σ1) cb sb (pc + 3) L (v.toList ++ rest) σ1) : qV p l e R s m args below meth c g nL Qf (qbind o1 kv qE0) (mc + cb) (ms + sb) pc L st σ := by
  subst hst
  intro r hr ls H locs cells slots h1 h2 h3 h4 h5
  match o1, hM, hr with
  | none, _, hr => cases hr
  | some (.inr E, σ1), _, hr => cases hr
  | some (.inl v, σ1), hM, hr =>
    have C' := C
    obtain ⟨hx0, hb, hml, hown, hE, -, -⟩ := C
    obtain ⟨w1, w2, w3, w4⟩ := hw
    have hKn := hE.1.1.1 7 _ (show qcls[7]? = some (RJ4, TJ4, 4) from rfl)
    refine qv_coreg (va_runSU (cC := g.1.1 7) (C := RJ4) (b := g.2.2.1 62 j) (As := As.map (qcv g)) (rest := rest.map (qcv g)) ⟨hKn.2.1, hKn.2.2⟩ ⟨hx0, hb, hml, hown, qwords (a := args) hE.1⟩ (hM _ rfl) ⟨⟨rfl, rfl, by show d + 10 + 1 ≤ _; omega, hR.2, qword1 hE.1 w1, List.mem_singleton.mpr rfl⟩, qword hE.1 hl, qword hE.1 hsm.1, qword hE.1 hsm.2.1, qword hE.1 hin, qword hE.1 w2, qword hE.1 w1, hsm.2.2.1, fun sig hs => (by rw [hs] at w4; exact (Option.some.inj w4).symm)⟩ ⟨qPc_blind, qocell hE.1 (Or.inr ⟨rfl, rfl, rfl⟩) hm h2 rfl, fun U hU hW => ⟨rfl, hE.go hW h3 hU, by rw [hU]; exact h2⟩⟩ rfl (by rw [List.length_map]; exact hn) h1.1 (by simp [qcv]) (qroom hrest) dd ⟨by omega, by omega⟩) h3 (fun v2 g1 hv2 E hRs H1 locs1 hb1 hS1 => ?_)
    cases hv2
    exact qg_go C' hr h1 hL hS E hRs hb1 hS1 (by omega) (by omega) k
/-- Object's constructor -/
theorem qv_obj (C : qC p l s m meth c cc nL own g) {idx : Nat} {a : Nat × Nat} (hl : Cond.methodLink own idx objectInit ∈ qWA) (ho : Cond.instanceMethod objectInit ∈ qWA ∧ Cond.code objectInit ⟨#[0xb1]⟩ 1 none ∈ qWA) (hR : 1 ≤ R.frames ∧ 40 ≤ R.locals) (hst : (st.map qcat).sum ≤ 8) (d : decode cc pc = .ok (.invokespecial idx, 3)) (k : qV p l e R s m args below meth c g nL Qf o cb sb (pc + 3) L st σ) : qV p l e R s m args below meth c g nL Qf o cb sb pc L (.inr a :: st) σ := by
  intro r hr ls H locs cells slots h1 h2 h3 h4 h5
  obtain ⟨hx0, hb, hml, hown, hE, -, -⟩ := C
  refine W.objInit hx0 hb hown (qword hE.1 hl) (qword hE.1 ho.1) (qword hE.1 ho.2) rfl (h1.1.trans hml.symm) rfl d hR.1 ?_ (k r hr ls H locs cells slots h1 h2 h3 h4 h5)
  have := qroom (g := g) (m := m) (pc := pc) (ls := ls) (st0 := List.map (qcv g) (Sum.inr a :: st)) hst
  omega
/-- an evolved world, seen by the names that were -/
theorem qgI {k : Int32 → qS → Option qO} {rest : List qA} {P : qG → Prop} (h : ∀ (x : Int32) (σ1 : qS) (g1 : qG), qC p l s m meth c cc nL own g1 → qEv D g g1 → (∀ q ∈ Rs, q ∈ qX9 g1) → qV p l e R s m args below meth c g1 nL Qf (k x σ1) cb sb pc L (qI x :: rest) σ1) : ∀ (v : Option qA) (σ1 : qS) (g1 : qG), qC p l s m meth c cc nL own g1 → qEv D g g1 → (∀ q ∈ Rs, q ∈ qX9 g1) → qV p l e R s m args below meth c g1 nL Qf (qvI k v σ1) cb sb pc L (v.toList ++ rest) σ1
  | some (.inl (.int x)), σ1, g1, C1, E, hR => h x σ1 g1 C1 E hR
  | none, _, _, _, _, _ | some (.inl (.long _)), _, _, _, _, _ | some (.inl (.float _)), _, _, _, _, _ | some (.inl (.double _)), _, _, _, _, _ | some (.inl .null), _, _, _, _, _ | some (.inl (.ref _)), _, _, _, _, _ | some (.inl (.retAddr _)), _, _, _, _, _ | some (.inr _), _, _, _, _, _ => qV.no
theorem qgV {k : qS → Option qO} {rest : List qA} (h : ∀ (σ1 : qS) (g1 : qG), qC p l s m meth c cc nL own g1 → qEv D g g1 → (∀ q ∈ Rs, q ∈ qX9 g1) → qV p l e R s m args below meth c g1 nL Qf (k σ1) cb sb pc L rest σ1) : ∀ (v : Option qA) (σ1 : qS) (g1 : qG), qC p l s m meth c cc nL own g1 → qEv D g g1 → (∀ q ∈ Rs, q ∈ qX9 g1) → qV p l e R s m args below meth c g1 nL Qf (qvV k v σ1) cb sb pc L (v.toList ++ rest) σ1
  | none, σ1, g1, C1, E, hR => h σ1 g1 C1 E hR
  | some _, _, _, _, _, _ => qV.no
end QGV
/-- a reference that is this name -/
def qvM (K J : Nat) (k : qS → Option qO) : Option qA → qS → Option qO := fun v σ => match v with
  | some (.inr q) => if q.1 = K ∧ q.2 = J then k σ else none
  | _ => none
section QGV2
variable {p : Program} {l : Launch} {e : Env} {R : Room} {s : State} {m : MethodId} {args : Array Value} {below : List Frame} {meth : Method} {c : Code} {g : qG} {nL : Nat} {Qf : qO → State → Prop} {cb sb pc : Nat} {L : List (Option qA)} {cc : ByteArray} {own : String} {D Rs : List (Nat × Nat)}
theorem qgM {K J : Nat} {k : qS → Option qO} {rest : List qA} (h : ∀ (σ1 : qS) (g1 : qG), qC p l s m meth c cc nL own g1 → qEv D g g1 → (∀ q ∈ Rs, q ∈ qX9 g1) → qV p l e R s m args below meth c g1 nL Qf (k σ1) cb sb pc L (qR K J :: rest) σ1) : ∀ (v : Option qA) (σ1 : qS) (g1 : qG), qC p l s m meth c cc nL own g1 → qEv D g g1 → (∀ q ∈ Rs, q ∈ qX9 g1) → qV p l e R s m args below meth c g1 nL Qf (qvM K J k v σ1) cb sb pc L (v.toList ++ rest) σ1
  | some (.inr (K', J')), σ1, g1, C1, E, hR => by
    show qV p l e R s m args below meth c g1 nL Qf (if K' = K ∧ J' = J then k σ1 else none) cb sb pc L (qR K' J' :: rest) σ1
    by_cases h1 : K' = K ∧ J' = J
    · rw [if_pos h1]; obtain ⟨rfl, rfl⟩ := h1; exact h σ1 g1 C1 E hR
    · rw [if_neg h1]; exact qV.no
  | none, _, _, _, _, _ | some (.inl _), _, _, _, _, _ => qV.no
theorem qkM {K J : Nat} {k : qS → Option qO} {rest : List qA} (h : ∀ (σ1 : qS), qV p l e R s m args below meth c g nL Qf (k σ1) cb sb pc L (qR K J :: rest) σ1) : ∀ (v : Option qA) (σ1 : qS), qV p l e R s m args below meth c g nL Qf (qvM K J k v σ1) cb sb pc L (v.toList ++ rest) σ1
  | some (.inr (K', J')), σ1 => by
    show qV p l e R s m args below meth c g nL Qf (if K' = K ∧ J' = J then k σ1 else none) cb sb pc L (qR K' J' :: rest) σ1
    by_cases h1 : K' = K ∧ J' = J
    · rw [if_pos h1]; obtain ⟨rfl, rfl⟩ := h1; exact h σ1
    · rw [if_neg h1]; exact qV.no
  | none, _ | some (.inl _), _ => qV.no
theorem qv_areto (C : qC p l s m meth c cc nL own g) {rt : FieldType} (hr : meth.sig.returnType = some rt) (hrt : (∃ n, rt = .object n) ∨ ∃ t, rt = .array t) {a : Nat × Nat} {σ : qS} (d : decode cc pc = .ok (.areturn, 1)) : qV p l e R s m args below meth c g nL (qQf g below args s R) (some (.inl (some (.inr a)), σ)) cb sb pc L [.inr a] σ := by
  intro r h0 ls H locs cells slots h1 h2 h3 h4 h5
  cases h0
  obtain ⟨hx0, hb, hml, hown, hE, -, hlk⟩ := C
  exact vx_ret (W.widen (by omega) (by omega) (W.aret (v := qcv g (.inr a)) hx0 hb hr hrt (Or.inr ⟨_, rfl⟩) (fun t ht hW => qret_q (v := some (.inr a)) h2 h3 ht) h3.2.2 d hlk))
end QGV2
