/-! calls, throws, catches -/
/-- how a call goes on: by what it answers, or by what it throws -/
def qbind (o1 : Option qO) (kv : Option qA → qS → Option qO) (kE : String → qS → Option qO) : Option qO := match o1 with
  | none => none
  | some (.inl v, σ1) => kv v σ1
  | some (.inr E, σ1) => kE E σ1
def qvI (k : Int32 → qS → Option qO) : Option qA → qS → Option qO := fun v σ => match v with
  | some (.inl (.int x)) => k x σ
  | _ => none
def qvD (k : UInt64 → qS → Option qO) : Option qA → qS → Option qO := fun v σ => match v with
  | some (.inl (.double x)) => k x σ
  | _ => none
def qvF (k : UInt32 → qS → Option qO) : Option qA → qS → Option qO := fun v σ => match v with
  | some (.inl (.float x)) => k x σ
  | _ => none
def qvV (k : qS → Option qO) : Option qA → qS → Option qO := fun v σ => match v with
  | none => k σ
  | _ => none
/-- a reference of kind K -/
def qvR (K : Nat) (k : Nat → qS → Option qO) : Option qA → qS → Option qO := fun v σ => match v with
  | some (.inr q) => if q.1 = K ∧ q.2 < qn K then k q.2 σ else none
  | _ => none
/-- null, or a reference of kind K, with n of them -/
def qvN (K n : Nat) (kn : qS → Option qO) (k : Nat → qS → Option qO) : Option qA → qS → Option qO := fun v σ => match v with
  | some (.inr q) => if q.1 = K ∧ q.2 < n then k q.2 σ else none
  | some (.inl .null) => kn σ
  | _ => none
def qE0 : String → qS → Option qO := fun _ _ => none
def qE1 : String → qS → Option qO := fun E σ => some (.inr E, σ)
abbrev qcI (o1 : Option qO) (k : Int32 → qS → Option qO) : Option qO := qbind o1 (qvI k) qE0
abbrev qcV (o1 : Option qO) (k : qS → Option qO) : Option qO := qbind o1 (qvV k) qE0
abbrev qcR (K : Nat) (o1 : Option qO) (k : Nat → qS → Option qO) : Option qO := qbind o1 (qvR K k) qE0
abbrev qcD (o1 : Option qO) (k : UInt64 → qS → Option qO) : Option qO := qbind o1 (qvD k) qE0
abbrev qcF (o1 : Option qO) (k : UInt32 → qS → Option qO) : Option qO := qbind o1 (qvF k) qE0
abbrev qtI (o1 : Option qO) (k : Int32 → qS → Option qO) : Option qO := qbind o1 (qvI k) qE1
abbrev qtV (o1 : Option qO) (k : qS → Option qO) : Option qO := qbind o1 (qvV k) qE1
section QB
variable {p : Program} {l : Launch} {e : Env} {R : Room} {s : State} {m : MethodId} {args : Array Value} {below : List Frame} {meth : Method} {c : Code} {g : qG} {nL : Nat} {Qf : qO → State → Prop} {o : Option qO} {cb sb pc : Nat} {L : List (Option qA)} {st : List qA} {σ : qS} {cc : ByteArray} {own : String}
theorem qv_core {H : Heap} {locs : List Loc} {cells slots mc ms : Nat} {Q : State → Prop} {ls : Array Slot} {st0 rest : List Value} {r1 : qO} {a : Array Value} (hr : vx_Run p l e R s m args below meth c H locs cells slots mc ms (F0 m pc ls st0) rest (qQ g r1 a) (qX g r1) (qAf g)) (hS : va_S (qAf g) s.heap H locs)
    (kv : ∀ v : Option qA, r1.1 = .inl v → ∀ (H1 : Heap) (locs1 : List Loc), qH g r1.2 H1 → va_S (qAf g) s.heap H1 locs1 → W p l e R s m args below meth c H1 locs1 (cells + mc) (slots + ms) Q (F0 m (pc + 3) ls ((v.map (qcv g)).toList ++ rest)))
    (kx : ∀ E : String, r1.1 = .inr E → ∀ (ce : Cell) (q9 : Addr) (H1 : Heap) (locs1 : List Loc), qH g r1.2 H1 → va_S (qAf g) s.heap H1 locs1 → H1[q9]? = some ce → ce.vm = .none → s.vm.findClass E = some ce.cls → vx_W p l e R s m args below meth c H1 locs1 (cells + mc) (slots + ms) Q (F0 m pc ls rest) q9) :
    W p l e R s m args below meth c H locs cells slots Q (F0 m pc ls st0) := by
  intro T hT X
  rcases hr T hT X with ⟨v, st₀, t, T', L', h0, X', hL, e1, e2, ⟨⟨v2, hv, hv2, hb⟩, hF⟩, st⟩ | ⟨q, st₀, t, T', L', E, ce, h0, X', hL, e1, e2, ⟨⟨hv, hb⟩, hF⟩, hce, hcv, hcl, st⟩
  · cases hv2
    obtain ⟨k1, k2, k3⟩ := vx_keep h0 e1 hS (fun q _ h => h) (fun q h => h) hL hF
    obtain ⟨t2, a1, b1⟩ := kv v2 hv T'.heap (locs ++ L') (by rw [e1]; exact hb) k3 T' rfl X'
    exact ⟨t2, st t2 a1, b1⟩
  · obtain ⟨k1, k2, k3⟩ := vx_keep h0 e1 hS (fun q _ h => h) (fun q h => h) hL hF
    obtain ⟨t2, a1, b1⟩ := kx E hv ce q T'.heap (locs ++ L') (by rw [e1]; exact hb) k3 (by rw [e1]; exact hce) hcv hcl T' rfl X'
    exact ⟨t2, st.trans a1, b1⟩
theorem qPc_blind {As : List qA} : FrameBlind (qPc g As σ) := fun a U g0 mk h => ⟨h.1, h.2.1.blind, h.2.2⟩
/-- the words that a callee's contract wants of its caller -/
theorem qword1 {w : Cond} (h : qKt g s) (hw : w ∈ qWA) : ∀ w' ∈ [w], ∀ (a' : Array Value) (U : State), s.WarmedH U.vm → w'.before a' U = true := by
  intro w' hw' a' U hW
  rw [List.mem_singleton.mp hw']
  exact qok_warm (List.mem_filter.mp hw).2 hW (h.2.1 w hw)
/-- a method that may be called: its code, its class -/
def qMw (y : MethodName) (b : ByteArray) (mL n : Nat) (ret : Option FieldType) : Prop :=
  Cond.code y b mL ret ∈ qWA ∧ Cond.initialized y.cls ∈ qWA ∧ (y.cls ≠ "java/lang/invoke/MethodHandle" ∧ y.cls ≠ "java/lang/invoke/VarHandle") ∧ (parseMethodDescriptor y.desc).map (fun d => d.parameters.length) = some n
theorem qCallB {idx mL n d mc ms : Nat} {y : MethodName} {b : ByteArray} {ret : Option FieldType} (h : qKt g s) (hw : qMw y b mL n ret) (hl : Cond.methodLink own idx y ∈ qWA) (hR : d + 11 ≤ R.frames ∧ 8 + (mL + 11) + (64 * d + 1000) ≤ R.locals) :
    CallB R s args own idx y b mL ret [.code y b mL ret] (qrm d mc ms) mc ms n := by
  obtain ⟨h1, h2, h3, h4⟩ := hw
  refine ⟨rfl, rfl, by show d + 10 + 1 ≤ _; omega, hR.2, qword1 h h1, List.mem_singleton.mpr rfl, qword h h1, qword h h2, h3, fun sig hs => ?_, qword h hl⟩
  rw [hs] at h4
  exact (Option.some.inj h4).symm
theorem qcat_sum (g : qG) (rest : List qA) : ((rest.map (qcv g)).map fun v => v.category).sum = (rest.map qcat).sum := by
  rw [List.map_map]
  congr 1
  exact List.map_congr_left fun v _ => qcat_cv g v
theorem qroom {ls : Array Slot} {st0 : List Value} {rest : List qA} (h : (rest.map qcat).sum ≤ 8) : 2 * (F0 m pc ls st0).monitorRoom + ((rest.map (qcv g)).map fun v => v.category).sum ≤ 8 := lv_room (by rw [qcat_sum]; exact h)
/-- a static call within the class -/
theorem qrunS (C : qC p l s m meth c cc nL own g) {idx mL n d mc ms cells slots : Nat} {y : MethodName} {b : ByteArray} {ret : Option FieldType} {As rest : List qA} {o1 : Option qO} {r1 : qO} {ls : Array Slot} {H : Heap} {locs : List Loc} (hM : qM g l d mc ms (.code y b mL ret) y As σ o1) (hr1 : o1 = some r1) (hw : qMw y b mL n ret) (hl : Cond.methodLink own idx y ∈ qWA) (hst : Cond.static y ∈ qWA) (hn : As.length = n) (hrest : (rest.map qcat).sum ≤ 8) (hR : d + 11 ≤ R.frames ∧ 8 + (mL + 11) + (64 * d + 1000) ≤ R.locals)
    (dd : decode cc pc = .ok (.invokestatic idx, 3)) (h1 : qLs g ls nL L) (h2 : qH g σ H) (h3 : va_S (qAf g) s.heap H locs) (h4 : cells + mc ≤ R.cells) (h5 : slots + ms ≤ R.slots) :
    vx_Run p l e R s m args below meth c H locs cells slots mc ms (F0 m pc ls ((As.reverse ++ rest).map (qcv g))) (rest.map (qcv g)) (qQ g r1 (As.map (qcv g)).toArray) (qX g r1) (qAf g) := by
  obtain ⟨hx0, hb, hml, hown, hE, -, -⟩ := C
  exact vx_runS (As := As.map (qcv g)) (rest := rest.map (qcv g)) ⟨hx0, hb, hml, hown, qwords (a := args) hE.1⟩ (hM r1 hr1) ⟨qCallB hE.1 hw hl hR, qword hE.1 hst⟩ ⟨qPc_blind, fun U hU hW => ⟨rfl, hE.go hW h3 hU, by rw [hU]; exact h2⟩⟩ rfl (by rw [List.length_map]; exact hn) h1.1 (by rw [List.map_append, List.map_reverse]) (qroom hrest) dd ⟨h4, h5⟩
/-- an object's cell, for its calls -/
theorem qcell (h : qKt g s) {H : Heap} {kd j N : Nat} {C0 : String} {T : u_T} (h2 : qH g σ H) (hsh : qsh kd = 0) (hkd : kd < 26) (hj : j < qn kd) (hc : qcls[qci kd]? = some (C0, T, N)) : ∃ cellB : Cell, H[g.2.2.1 kd j]? = some cellB ∧ cellB.vm.isStatics = false ∧ s.vm.findClass C0 = some cellB.cls := by
  obtain ⟨q0, -, hq⟩ := qws_at g σ hkd hj
  rw [qent0 hsh] at hq
  exact va_recv h.1 h2.1 hc hq
theorem qrunV (C : qC p l s m meth c cc nL own g) {idx mL n d mc ms cells slots kd j N : Nat} {C0 : String} {T : u_T} {y : MethodName} {b : ByteArray} {ret : Option FieldType} {As rest : List qA} {o1 : Option qO} {r1 : qO} {ls : Array Slot} {H : Heap} {locs : List Loc} (hM : qM g l d mc ms (.code y b mL ret) y (qR kd j :: As) σ o1) (hr1 : o1 = some r1) (hw : qMw y b mL n ret) (hl : Cond.methodLink own idx y ∈ qWA) (hin : Cond.instanceMethod y ∈ qWA) (hse : Cond.selects C0 y y ∈ qWA) (hsh : qsh kd = 0) (hkd : kd < 26) (hj : j < qn kd) (hc : qcls[qci kd]? = some (C0, T, N)) (hn : As.length = n) (hrest : (rest.map qcat).sum ≤ 8) (hR : d + 11 ≤ R.frames ∧ 8 + (mL + 11) + (64 * d + 1000) ≤ R.locals)
    (dd : decode cc pc = .ok (.invokevirtual idx, 3)) (h1 : qLs g ls nL L) (h2 : qH g σ H) (h3 : va_S (qAf g) s.heap H locs) (h4 : cells + mc ≤ R.cells) (h5 : slots + ms ≤ R.slots) :
    vx_Run p l e R s m args below meth c H locs cells slots mc ms (F0 m pc ls ((As.reverse ++ qR kd j :: rest).map (qcv g))) (rest.map (qcv g)) (qQ g r1 ((qR kd j :: As).map (qcv g)).toArray) (qX g r1) (qAf g) := by
  obtain ⟨hx0, hb, hml, hown, hE, -, -⟩ := C
  exact vx_runV (C := C0) (b := g.2.2.1 kd j) (As := As.map (qcv g)) (rest := rest.map (qcv g)) ⟨hx0, hb, hml, hown, qwords (a := args) hE.1⟩ (hM r1 hr1) ⟨qCallB hE.1 hw hl hR, qword hE.1 hin, qword hE.1 hse⟩ ⟨qPc_blind, qcell hE.1 h2 hsh hkd hj hc, fun U hU hW => ⟨rfl, hE.go hW h3 hU, by rw [hU]; exact h2⟩⟩ rfl (by rw [List.length_map]; exact hn) h1.1 (by simp [qcv]) (qroom hrest) dd ⟨h4, h5⟩
/-- a contract whose outcome is an answer, as one that never throws -/
theorem qM_met {d mc ms : Nat} {w : Cond} {y : MethodName} {As : List qA} {o1 : Option qO} {v : Option qA} {σ1 : qS} (hM : qM g l d mc ms w y As σ o1) (hr : o1 = some (.inl v, σ1)) : Met l y [w] (qrm d mc ms) (qPc g As σ) (qQ g (.inl v, σ1)) mc ms (qAf g) :=
  (hM _ hr).mono (fun _ _ h => h) (fun _ _ _ _ _ h => h) (fun a st oc t _ h => by
    rcases h with h | ⟨q, -, E, ce, L, ⟨⟨h, -⟩, -⟩, -⟩
    · exact h
    · cases h)
theorem qCN {idx mL n d mc ms : Nat} {y : MethodName} {b : ByteArray} {ret : Option FieldType} {host : String} (h : qKt g s) (hw : qMw y b mL n ret) (hl : Cond.methodLinkNest own idx y host ∈ qWA) (hR : d + 11 ≤ R.frames ∧ 8 + (mL + 11) + (64 * d + 1000) ≤ R.locals) :
    va_CN R s args own idx y host b mL ret [.code y b mL ret] (qrm d mc ms) mc ms n := by
  obtain ⟨h1, h2, h3, h4⟩ := hw
  refine ⟨⟨rfl, rfl, by show d + 10 + 1 ≤ _; omega, hR.2, qword1 h h1, List.mem_singleton.mpr rfl⟩, qword h h1, qword h h2, h3, fun sig hs => ?_, qword h hl⟩
  rw [hs] at h4
  exact (Option.some.inj h4).symm
/-- of a run that only returns, one that may throw -/
theorem qrun_of {H : Heap} {locs : List Loc} {cells slots mc ms : Nat} {g0 : JFrame} {rest : List Value} {Qa : State → Outcome → State → Prop} {XC : String → State → State → Prop} {free : Addr → Prop} (h : va_Run p l e R s m args below meth c H locs cells slots mc ms g0 rest Qa free) : vx_Run p l e R s m args below meth c H locs cells slots mc ms g0 rest Qa XC free := fun T hT X => Or.inl (h T hT X)
theorem qrunSN (C : qC p l s m meth c cc nL own g) {idx mL n d mc ms cells slots : Nat} {y : MethodName} {b : ByteArray} {ret : Option FieldType} {host : String} {As rest : List qA} {o1 : Option qO} {v : Option qA} {σ1 : qS} {ls : Array Slot} {H : Heap} {locs : List Loc} (hM : qM g l d mc ms (.code y b mL ret) y As σ o1) (hr1 : o1 = some (.inl v, σ1)) (hw : qMw y b mL n ret) (hl : Cond.methodLinkNest own idx y host ∈ qWA) (hst : Cond.static y ∈ qWA) (hn : As.length = n) (hrest : (rest.map qcat).sum ≤ 8) (hR : d + 11 ≤ R.frames ∧ 8 + (mL + 11) + (64 * d + 1000) ≤ R.locals)
    (dd : decode cc pc = .ok (.invokestatic idx, 3)) (h1 : qLs g ls nL L) (h2 : qH g σ H) (h3 : va_S (qAf g) s.heap H locs) (h4 : cells + mc ≤ R.cells) (h5 : slots + ms ≤ R.slots) :
    vx_Run p l e R s m args below meth c H locs cells slots mc ms (F0 m pc ls ((As.reverse ++ rest).map (qcv g))) (rest.map (qcv g)) (qQ g (.inl v, σ1) (As.map (qcv g)).toArray) (qX g (.inl v, σ1)) (qAf g) := by
  obtain ⟨hx0, hb, hml, hown, hE, -, -⟩ := C
  exact qrun_of (va_runSN (As := As.map (qcv g)) (rest := rest.map (qcv g)) ⟨hx0, hb, hml, hown, qwords (a := args) hE.1⟩ (qM_met hM hr1) ⟨qCN hE.1 hw hl hR, qword hE.1 hst, trivial⟩ ⟨qPc_blind, fun U hU hW => ⟨rfl, hE.go hW h3 hU, by rw [hU]; exact h2⟩⟩ rfl (by rw [List.length_map]; exact hn) h1.1 (by rw [List.map_append, List.map_reverse]) (qroom hrest) dd ⟨h4, h5⟩)
theorem qrunVN (C : qC p l s m meth c cc nL own g) {idx mL n d mc ms cells slots kd j N : Nat} {C0 : String} {T : u_T} {y : MethodName} {b : ByteArray} {ret : Option FieldType} {host : String} {As rest : List qA} {o1 : Option qO} {v : Option qA} {σ1 : qS} {ls : Array Slot} {H : Heap} {locs : List Loc} (hM : qM g l d mc ms (.code y b mL ret) y (qR kd j :: As) σ o1) (hr1 : o1 = some (.inl v, σ1)) (hw : qMw y b mL n ret) (hl : Cond.methodLinkNest own idx y host ∈ qWA) (hin : Cond.instanceMethod y ∈ qWA) (hse : Cond.selects C0 y y ∈ qWA) (hsh : qsh kd = 0) (hkd : kd < 26) (hj : j < qn kd) (hc : qcls[qci kd]? = some (C0, T, N)) (hn : As.length = n) (hrest : (rest.map qcat).sum ≤ 8) (hR : d + 11 ≤ R.frames ∧ 8 + (mL + 11) + (64 * d + 1000) ≤ R.locals)
    (dd : decode cc pc = .ok (.invokevirtual idx, 3)) (h1 : qLs g ls nL L) (h2 : qH g σ H) (h3 : va_S (qAf g) s.heap H locs) (h4 : cells + mc ≤ R.cells) (h5 : slots + ms ≤ R.slots) :
    vx_Run p l e R s m args below meth c H locs cells slots mc ms (F0 m pc ls ((As.reverse ++ qR kd j :: rest).map (qcv g))) (rest.map (qcv g)) (qQ g (.inl v, σ1) ((qR kd j :: As).map (qcv g)).toArray) (qX g (.inl v, σ1)) (qAf g) := by
  obtain ⟨hx0, hb, hml, hown, hE, -, -⟩ := C
  exact qrun_of (va_runVN (C := C0) (b := g.2.2.1 kd j) (As := As.map (qcv g)) (rest := rest.map (qcv g)) ⟨hx0, hb, hml, hown, qwords (a := args) hE.1⟩ (qM_met hM hr1) ⟨qCN hE.1 hw hl hR, qword hE.1 hin, qword hE.1 hse⟩ ⟨qPc_blind, qcell hE.1 h2 hsh hkd hj hc, fun U hU hW => ⟨rfl, hE.go hW h3 hU, by rw [hU]; exact h2⟩⟩ rfl (by rw [List.length_map]; exact hn) h1.1 (by simp [qcv]) (qroom hrest) dd ⟨h4, h5⟩)
theorem qv_map (v : Option qA) (rest : List qA) : (v.map (qcv g)).toList ++ rest.map (qcv g) = (v.toList ++ rest).map (qcv g) := by cases v <;> rfl
theorem qkI {k : Int32 → qS → Option qO} {rest : List qA} (h : ∀ (x : Int32) (σ1 : qS), qV p l e R s m args below meth c g nL Qf (k x σ1) cb sb pc L (qI x :: rest) σ1) : ∀ (v : Option qA) (σ1 : qS), qV p l e R s m args below meth c g nL Qf (qvI k v σ1) cb sb pc L (v.toList ++ rest) σ1
  | some (.inl (.int x)), σ1 => h x σ1
  | none, _ | some (.inl (.long _)), _ | some (.inl (.float _)), _ | some (.inl (.double _)), _ | some (.inl .null), _ | some (.inl (.ref _)), _ | some (.inl (.retAddr _)), _ | some (.inr _), _ => qV.no
theorem qkD {k : UInt64 → qS → Option qO} {rest : List qA} (h : ∀ (x : UInt64) (σ1 : qS), qV p l e R s m args below meth c g nL Qf (k x σ1) cb sb pc L (.inl (.double x) :: rest) σ1) : ∀ (v : Option qA) (σ1 : qS), qV p l e R s m args below meth c g nL Qf (qvD k v σ1) cb sb pc L (v.toList ++ rest) σ1
  | some (.inl (.double x)), σ1 => h x σ1
  | none, _ | some (.inl (.long _)), _ | some (.inl (.float _)), _ | some (.inl (.int _)), _ | some (.inl .null), _ | some (.inl (.ref _)), _ | some (.inl (.retAddr _)), _ | some (.inr _), _ => qV.no
theorem qkF {k : UInt32 → qS → Option qO} {rest : List qA} (h : ∀ (x : UInt32) (σ1 : qS), qV p l e R s m args below meth c g nL Qf (k x σ1) cb sb pc L (.inl (.float x) :: rest) σ1) : ∀ (v : Option qA) (σ1 : qS), qV p l e R s m args below meth c g nL Qf (qvF k v σ1) cb sb pc L (v.toList ++ rest) σ1
  | some (.inl (.float x)), σ1 => h x σ1
  | none, _ | some (.inl (.long _)), _ | some (.inl (.double _)), _ | some (.inl (.int _)), _ | some (.inl .null), _ | some (.inl (.ref _)), _ | some (.inl (.retAddr _)), _ | some (.inr _), _ => qV.no
theorem qkV {k : qS → Option qO} {rest : List qA} (h : ∀ (σ1 : qS), qV p l e R s m args below meth c g nL Qf (k σ1) cb sb pc L rest σ1) : ∀ (v : Option qA) (σ1 : qS), qV p l e R s m args below meth c g nL Qf (qvV k v σ1) cb sb pc L (v.toList ++ rest) σ1
  | none, σ1 => h σ1
  | some _, _ => qV.no
theorem qkR {K : Nat} {k : Nat → qS → Option qO} {rest : List qA} (h : ∀ (j : Nat), j < qn K → ∀ σ1 : qS, qV p l e R s m args below meth c g nL Qf (k j σ1) cb sb pc L (qR K j :: rest) σ1) : ∀ (v : Option qA) (σ1 : qS), qV p l e R s m args below meth c g nL Qf (qvR K k v σ1) cb sb pc L (v.toList ++ rest) σ1
  | some (.inr (K', j)), σ1 => by
    show qV p l e R s m args below meth c g nL Qf (if K' = K ∧ j < qn K then k j σ1 else none) cb sb pc L (qR K' j :: rest) σ1
    by_cases h1 : K' = K ∧ j < qn K
    · rw [if_pos h1]; obtain ⟨rfl, h2⟩ := h1; exact h j h2 σ1
    · rw [if_neg h1]; exact qV.no
  | none, _ | some (.inl _), _ => qV.no
theorem qkN {K n : Nat} {kn : qS → Option qO} {k : Nat → qS → Option qO} {rest : List qA} (hn : ∀ σ1 : qS, qV p l e R s m args below meth c g nL Qf (kn σ1) cb sb pc L (.inl .null :: rest) σ1) (h : ∀ (j : Nat), j < n → ∀ σ1 : qS, qV p l e R s m args below meth c g nL Qf (k j σ1) cb sb pc L (qR K j :: rest) σ1) : ∀ (v : Option qA) (σ1 : qS), qV p l e R s m args below meth c g nL Qf (qvN K n kn k v σ1) cb sb pc L (v.toList ++ rest) σ1
  | some (.inr (K', j)), σ1 => by
    show qV p l e R s m args below meth c g nL Qf (if K' = K ∧ j < n then k j σ1 else none) cb sb pc L (qR K' j :: rest) σ1
    by_cases h1 : K' = K ∧ j < n
    · rw [if_pos h1]; obtain ⟨rfl, h2⟩ := h1; exact h j h2 σ1
    · rw [if_neg h1]; exact qV.no
  | some (.inl .null), σ1 => hn σ1
  | none, _ | some (.inl (.long _)), _ | some (.inl (.float _)), _ | some (.inl (.double _)), _ | some (.inl (.int _)), _ | some (.inl (.ref _)), _ | some (.inl (.retAddr _)), _ => qV.no
/-- a call that is to answer -/
theorem qv_callS (C : qC p l s m meth c cc nL own g) {idx mL n d mc ms : Nat} {y : MethodName} {b : ByteArray} {ret : Option FieldType} {As rest : List qA} {o1 : Option qO} {kv : Option qA → qS → Option qO} (hM : qM g l d mc ms (.code y b mL ret) y As σ o1) (hw : qMw y b mL n ret) (hl : Cond.methodLink own idx y ∈ qWA) (hstt : Cond.static y ∈ qWA) (hn : As.length = n) (hrest : (rest.map qcat).sum ≤ 8) (hR : d + 11 ≤ R.frames ∧ 8 + (mL + 11) + (64 * d + 1000) ≤ R.locals) (dd : decode cc pc = .ok (.invokestatic idx, 3)) (hst : st = As.reverse ++ rest) (k : ∀ (v : Option qA) (σ1 : qS), qV p l e R s m args below meth c g nL Qf (kv v σ1) cb sb (pc + 3) L (v.toList ++ rest) σ1) : qV p l e R s m args below meth c g nL Qf (qbind o1 kv qE0) (mc + cb) (ms + sb) pc L st σ := by
  subst hst
  intro r hr ls H locs cells slots h1 h2 h3 h4 h5
  match o1, hM, hr with
  | none, _, hr => cases hr
  | some (.inr E, σ1), _, hr => cases hr
  | some (.inl v, σ1), hM, hr =>
    refine qv_core (qrunS C hM rfl hw hl hstt hn hrest hR dd h1 h2 h3 (by omega) (by omega)) h3 (fun v2 hv2 H1 locs1 hb1 hS1 => ?_) (fun E hE2 => ?_)
    · cases hv2
      rw [qv_map]
      exact k v σ1 r hr ls H1 locs1 _ _ h1 hb1 hS1 (by omega) (by omega)
    · cases hE2
/-- a call that is to answer -/
theorem qv_callSN (C : qC p l s m meth c cc nL own g) {idx mL n d mc ms : Nat} {y : MethodName} {b : ByteArray} {ret : Option FieldType} {As rest : List qA} {o1 : Option qO} {kv : Option qA → qS → Option qO} (hM : qM g l d mc ms (.code y b mL ret) y As σ o1) (hw : qMw y b mL n ret) (hl : ∃ host : String, Cond.methodLinkNest own idx y host ∈ qWA) (hstt : Cond.static y ∈ qWA) (hn : As.length = n) (hrest : (rest.map qcat).sum ≤ 8) (hR : d + 11 ≤ R.frames ∧ 8 + (mL + 11) + (64 * d + 1000) ≤ R.locals) (dd : decode cc pc = .ok (.invokestatic idx, 3)) (hst : st = As.reverse ++ rest) (k : ∀ (v : Option qA) (σ1 : qS), qV p l e R s m args below meth c g nL Qf (kv v σ1) cb sb (pc + 3) L (v.toList ++ rest) σ1) : qV p l e R s m args below meth c g nL Qf (qbind o1 kv qE0) (mc + cb) (ms + sb) pc L st σ := by
  subst hst
  obtain ⟨host, hlh⟩ := hl
  intro r hr ls H locs cells slots h1 h2 h3 h4 h5
  match o1, hM, hr with
  | none, _, hr => cases hr
  | some (.inr E, σ1), _, hr => cases hr
  | some (.inl v, σ1), hM, hr =>
    refine qv_core (qrunSN C hM rfl hw hlh hstt hn hrest hR dd h1 h2 h3 (by omega) (by omega)) h3 (fun v2 hv2 H1 locs1 hb1 hS1 => ?_) (fun E hE2 => ?_)
    · cases hv2
      rw [qv_map]
      exact k v σ1 r hr ls H1 locs1 _ _ h1 hb1 hS1 (by omega) (by omega)
    · cases hE2
/-- a call that is to answer -/
theorem qv_callV (C : qC p l s m meth c cc nL own g) {idx mL n d mc ms kd j N : Nat} {C0 : String} {T : u_T} {y : MethodName} {b : ByteArray} {ret : Option FieldType} {As rest : List qA} {o1 : Option qO} {kv : Option qA → qS → Option qO} (hM : qM g l d mc ms (.code y b mL ret) y (qR kd j :: As) σ o1) (hw : qMw y b mL n ret) (hl : Cond.methodLink own idx y ∈ qWA) (hin : Cond.instanceMethod y ∈ qWA) (hse : Cond.selects C0 y y ∈ qWA) (hsh : qsh kd = 0) (hkd : kd < 26) (hj : j < qn kd) (hc : qcls[qci kd]? = some (C0, T, N)) (hn : As.length = n) (hrest : (rest.map qcat).sum ≤ 8) (hR : d + 11 ≤ R.frames ∧ 8 + (mL + 11) + (64 * d + 1000) ≤ R.locals) (dd : decode cc pc = .ok (.invokevirtual idx, 3)) (hst : st = As.reverse ++ qR kd j :: rest) (k : ∀ (v : Option qA) (σ1 : qS), qV p l e R s m args below meth c g nL Qf (kv v σ1) cb sb (pc + 3) L (v.toList ++ rest) σ1) : qV p l e R s m args below meth c g nL Qf (qbind o1 kv qE0) (mc + cb) (ms + sb) pc L st σ := by
  subst hst
  intro r hr ls H locs cells slots h1 h2 h3 h4 h5
  match o1, hM, hr with
  | none, _, hr => cases hr
  | some (.inr E, σ1), _, hr => cases hr
  | some (.inl v, σ1), hM, hr =>
    refine qv_core (qrunV C hM rfl hw hl hin hse hsh hkd hj hc hn hrest hR dd h1 h2 h3 (by omega) (by omega)) h3 (fun v2 hv2 H1 locs1 hb1 hS1 => ?_) (fun E hE2 => ?_)
    · cases hv2
      rw [qv_map]
      exact k v σ1 r hr ls H1 locs1 _ _ h1 hb1 hS1 (by omega) (by omega)
    · cases hE2
/-- a call that is to answer -/
theorem qv_callVN (C : qC p l s m meth c cc nL own g) {idx mL n d mc ms kd j N : Nat} {C0 : String} {T : u_T} {y : MethodName} {b : ByteArray} {ret : Option FieldType} {As rest : List qA} {o1 : Option qO} {kv : Option qA → qS → Option qO} (hM : qM g l d mc ms (.code y b mL ret) y (qR kd j :: As) σ o1) (hw : qMw y b mL n ret) (hl : ∃ host : String, Cond.methodLinkNest own idx y host ∈ qWA) (hin : Cond.instanceMethod y ∈ qWA) (hse : Cond.selects C0 y y ∈ qWA) (hsh : qsh kd = 0) (hkd : kd < 26) (hj : j < qn kd) (hc : qcls[qci kd]? = some (C0, T, N)) (hn : As.length = n) (hrest : (rest.map qcat).sum ≤ 8) (hR : d + 11 ≤ R.frames ∧ 8 + (mL + 11) + (64 * d + 1000) ≤ R.locals) (dd : decode cc pc = .ok (.invokevirtual idx, 3)) (hst : st = As.reverse ++ qR kd j :: rest) (k : ∀ (v : Option qA) (σ1 : qS), qV p l e R s m args below meth c g nL Qf (kv v σ1) cb sb (pc + 3) L (v.toList ++ rest) σ1) : qV p l e R s m args below meth c g nL Qf (qbind o1 kv qE0) (mc + cb) (ms + sb) pc L st σ := by
  subst hst
  obtain ⟨host, hlh⟩ := hl
  intro r hr ls H locs cells slots h1 h2 h3 h4 h5
  match o1, hM, hr with
  | none, _, hr => cases hr
  | some (.inr E, σ1), _, hr => cases hr
  | some (.inl v, σ1), hM, hr =>
    refine qv_core (qrunVN C hM rfl hw hlh hin hse hsh hkd hj hc hn hrest hR dd h1 h2 h3 (by omega) (by omega)) h3 (fun v2 hv2 H1 locs1 hb1 hS1 => ?_) (fun E hE2 => ?_)
    · cases hv2
      rw [qv_map]
      exact k v σ1 r hr ls H1 locs1 _ _ h1 hb1 hS1 (by omega) (by omega)
    · cases hE2
/-- a call that may throw, past this method -/
theorem qt_callS (C : qC p l s m meth c cc nL own g) {idx mL n d mc ms : Nat} {y : MethodName} {b : ByteArray} {ret : Option FieldType} {As rest : List qA} {o1 : Option qO} {kv : Option qA → qS → Option qO} (hM : qM g l d mc ms (.code y b mL ret) y As σ o1) (hw : qMw y b mL n ret) (hl : Cond.methodLink own idx y ∈ qWA) (hstt : Cond.static y ∈ qWA) (hn : As.length = n) (hrest : (rest.map qcat).sum ≤ 8) (hR : d + 11 ≤ R.frames ∧ 8 + (mL + 11) + (64 * d + 1000) ≤ R.locals) (dd : decode cc pc = .ok (.invokestatic idx, 3)) (hst : st = As.reverse ++ rest) (ht : ∀ x ∈ c.exceptionTable.toList, False) (k : ∀ (v : Option qA) (σ1 : qS), qV p l e R s m args below meth c g nL (qQf g below args s R) (kv v σ1) cb sb (pc + 3) L (v.toList ++ rest) σ1) : qV p l e R s m args below meth c g nL (qQf g below args s R) (qbind o1 kv qE1) (mc + cb) (ms + sb) pc L st σ := by
  subst hst
  intro r hr ls H locs cells slots h1 h2 h3 h4 h5
  match o1, hM, hr with
  | none, _, hr => cases hr
  | some (.inr E, σ1), hM, hr =>
    refine qv_core (qrunS C hM rfl hw hl hstt hn hrest hR dd h1 h2 h3 (by omega) (by omega)) h3 (fun v2 hv2 => ?_) (fun E2 hE2 ce q9 H1 locs1 hb1 hS1 hce hcv hcl => ?_)
    · cases hv2
    · cases hE2
      cases hr
      exact vx_out (fun x hx => (ht x hx).elim) C.2.2.2.2.2.2 hce hcv hcl (fun t ht2 _ => ⟨⟨rfl, by rw [ht2]; exact hb1⟩, hS1.F ht2⟩) hS1.2.2 (by omega) (by omega)
  | some (.inl v, σ1), hM, hr =>
    refine qv_core (qrunS C hM rfl hw hl hstt hn hrest hR dd h1 h2 h3 (by omega) (by omega)) h3 (fun v2 hv2 H1 locs1 hb1 hS1 => ?_) (fun E hE2 => ?_)
    · cases hv2
      rw [qv_map]
      exact k v σ1 r hr ls H1 locs1 _ _ h1 hb1 hS1 (by omega) (by omega)
    · cases hE2
/-- a call that may throw, past this method -/
theorem qt_callV (C : qC p l s m meth c cc nL own g) {idx mL n d mc ms kd j N : Nat} {C0 : String} {T : u_T} {y : MethodName} {b : ByteArray} {ret : Option FieldType} {As rest : List qA} {o1 : Option qO} {kv : Option qA → qS → Option qO} (hM : qM g l d mc ms (.code y b mL ret) y (qR kd j :: As) σ o1) (hw : qMw y b mL n ret) (hl : Cond.methodLink own idx y ∈ qWA) (hin : Cond.instanceMethod y ∈ qWA) (hse : Cond.selects C0 y y ∈ qWA) (hsh : qsh kd = 0) (hkd : kd < 26) (hj : j < qn kd) (hc : qcls[qci kd]? = some (C0, T, N)) (hn : As.length = n) (hrest : (rest.map qcat).sum ≤ 8) (hR : d + 11 ≤ R.frames ∧ 8 + (mL + 11) + (64 * d + 1000) ≤ R.locals) (dd : decode cc pc = .ok (.invokevirtual idx, 3)) (hst : st = As.reverse ++ qR kd j :: rest) (ht : ∀ x ∈ c.exceptionTable.toList, False) (k : ∀ (v : Option qA) (σ1 : qS), qV p l e R s m args below meth c g nL (qQf g below args s R) (kv v σ1) cb sb (pc + 3) L (v.toList ++ rest) σ1) : qV p l e R s m args below meth c g nL (qQf g below args s R) (qbind o1 kv qE1) (mc + cb) (ms + sb) pc L st σ := by
  subst hst
  intro r hr ls H locs cells slots h1 h2 h3 h4 h5
  match o1, hM, hr with
  | none, _, hr => cases hr
  | some (.inr E, σ1), hM, hr =>
    refine qv_core (qrunV C hM rfl hw hl hin hse hsh hkd hj hc hn hrest hR dd h1 h2 h3 (by omega) (by omega)) h3 (fun v2 hv2 => ?_) (fun E2 hE2 ce q9 H1 locs1 hb1 hS1 hce hcv hcl => ?_)
    · cases hv2
    · cases hE2
      cases hr
      exact vx_out (fun x hx => (ht x hx).elim) C.2.2.2.2.2.2 hce hcv hcl (fun t ht2 _ => ⟨⟨rfl, by rw [ht2]; exact hb1⟩, hS1.F ht2⟩) hS1.2.2 (by omega) (by omega)
  | some (.inl v, σ1), hM, hr =>
    refine qv_core (qrunV C hM rfl hw hl hin hse hsh hkd hj hc hn hrest hR dd h1 h2 h3 (by omega) (by omega)) h3 (fun v2 hv2 H1 locs1 hb1 hS1 => ?_) (fun E hE2 => ?_)
    · cases hv2
      rw [qv_map]
      exact k v σ1 r hr ls H1 locs1 _ _ h1 hb1 hS1 (by omega) (by omega)
    · cases hE2
end QB
section QT
variable {p : Program} {l : Launch} {e : Env} {R : Room} {s : State} {m : MethodId} {args : Array Value} {below : List Frame} {meth : Method} {c : Code} {g : qG} {nL : Nat} {Qf : qO → State → Prop} {o : Option qO} {cb sb pc : Nat} {L : List (Option qA)} {st : List qA} {σ : qS} {cc : ByteArray} {own : String}
/-- the world stands when new cells come -/
theorem qH.new {H H1 : Heap} (h : qH g σ H) (hk : ∀ q : Nat, q < H.size → H1[q]? = H[q]?) : qH g σ H1 := ⟨h.1.kept (fun k q hq => hk q.1 (h.1 k q hq).lt), h.2⟩
abbrev qxn : List String := ["java/lang/RuntimeException", "java/lang/Exception"]
/-- what a throw of class E wants of the tables -/
def qThr (ik ic : Nat) (E : String) : Prop := Bundle.fit E = true ∧ Cond.classLink RX7 ik E ∈ qWA ∧ Cond.initialized E ∈ qWA ∧ (∀ w ∈ vx_atS RX7 ic E qxn, w ∈ qWA) ∧ (∀ w ∈ Cond.classLink RX7 ik E :: Cond.initialized E :: vx_atS RX7 ic E qxn, vx_ot w = true)
theorem qxn_fit : ∀ n ∈ qxn, Bundle.fit n = true := by decide +kernel
theorem qthrow_x {t : State} {H : Heap} {locs : List Loc} {E : String} (h2 : qH g σ H) (h3 : va_S (qAf g) s.heap H locs) (hsz : H.size ≤ t.heap.size) (hk : ∀ q : Nat, q < H.size → t.heap[q]? = H[q]?) : qX g (.inr E, σ) E s t :=
  ⟨⟨rfl, h2.new hk⟩, Nat.le_trans h3.1 hsz, fun q h1 h4 => by rw [hk q (Nat.lt_of_lt_of_le h1 h3.1)]; exact h3.2.1 q h1 h4⟩
/-- throw new E(text), the text by a wide index -/
theorem qv_throwW (C : qC p l s m meth c cc nL RX7 g) {ik is ic : Nat} {E text : String} (hT : qThr ik ic E) (hs : (is, text) ∈ qthr) (ht : ∀ x ∈ c.exceptionTable.toList, False) (hrest : (st.map qcat).sum ≤ 8) (hR : 10 ≤ R.frames ∧ 1000 ≤ R.locals)
    (d0 : decode cc pc = .ok (.new ik, 3)) (d3 : decode cc (pc + 3) = .ok (.dup, 1)) (d4 : decode cc (pc + 4) = .ok (.ldc_w is, 3)) (d7 : decode cc (pc + 7) = .ok (.invokespecial ic, 3)) (d10 : decode cc (pc + 10) = .ok (.athrow, 1)) :
    qV p l e R s m args below meth c g nL (qQf g below args s R) (some (.inr E, σ)) 1 6 pc L st σ := by
  intro r h0 ls H locs cells slots h1 h2 h3 h4 h5
  cases h0
  obtain ⟨hx0, hb, hml, hown, hE, hl, hlk⟩ := C
  obtain ⟨a, ha⟩ := hE.1.2.2.2.1 _ hs
  obtain ⟨t1, t2, t3, t4, t5⟩ := hT
  exact vx_throwSW hx0 hb hl hown t1 qxn_fit (qword hE.1 t2) (qword hE.1 t3) ha (fun w hw => qword hE.1 (t4 w hw)) t5 hE.2.2.2.2.2.1.1 hE.2.2.2.2.2.1.2 h3 (h1.1.trans hml.symm) d0 d3 d4 d7 d10 (fun x hx => (ht x hx).elim)
    (by show 2 + 3 < R.frames; omega) (by rw [qcat_sum]; show _ + (13 * (2 + 1) + 43) ≤ R.locals; omega) h4 h5 hlk (fun t _ z1 z2 => qthrow_x h2 h3 z1 z2) h3.2.2 (by omega) (by omega)
theorem qv_throwN (C : qC p l s m meth c cc nL RX7 g) {ik is ic : Nat} {E text : String} (hT : qThr ik ic E) (hs : (is, text) ∈ qthr) (ht : ∀ x ∈ c.exceptionTable.toList, False) (hrest : (st.map qcat).sum ≤ 8) (hR : 10 ≤ R.frames ∧ 1000 ≤ R.locals)
    (d0 : decode cc pc = .ok (.new ik, 3)) (d3 : decode cc (pc + 3) = .ok (.dup, 1)) (d4 : decode cc (pc + 4) = .ok (.ldc is, 2)) (d6 : decode cc (pc + 6) = .ok (.invokespecial ic, 3)) (d9 : decode cc (pc + 9) = .ok (.athrow, 1)) :
    qV p l e R s m args below meth c g nL (qQf g below args s R) (some (.inr E, σ)) 1 6 pc L st σ := by
  intro r h0 ls H locs cells slots h1 h2 h3 h4 h5
  cases h0
  obtain ⟨hx0, hb, hml, hown, hE, hl, hlk⟩ := C
  obtain ⟨a, ha⟩ := hE.1.2.2.2.1 _ hs
  obtain ⟨t1, t2, t3, t4, t5⟩ := hT
  exact vx_throwS hx0 hb hl hown t1 qxn_fit (qword hE.1 t2) (qword hE.1 t3) ha (fun w hw => qword hE.1 (t4 w hw)) t5 hE.2.2.2.2.2.1.1 hE.2.2.2.2.2.1.2 h3 (h1.1.trans hml.symm) d0 d3 d4 d6 d9 (fun x hx => (ht x hx).elim)
    (by show 2 + 3 < R.frames; omega) (by rw [qcat_sum]; show _ + (13 * (2 + 1) + 43) ≤ R.locals; omega) h4 h5 hlk (fun t _ z1 z2 => qthrow_x h2 h3 z1 z2) h3.2.2 (by omega) (by omega)
/-- with E thrown over the frame -/
def qVX (p : Program) (l : Launch) (e : Env) (R : Room) (s : State) (m : MethodId) (args : Array Value) (below : List Frame) (meth : Method) (c : Code) (g : qG) (nL : Nat) (Qf : qO → State → Prop) (o : Option qO) (cb sb pc : Nat) (L : List (Option qA)) (st : List qA) (σ : qS) (E : String) : Prop :=
  ∀ r : qO, o = some r → ∀ (ls : Array Slot) (H : Heap) (locs : List Loc) (cells slots : Nat) (ce : Cell) (q9 : Addr), qLs g ls nL L → qH g σ H → va_S (qAf g) s.heap H locs → cells + cb ≤ R.cells → slots + sb ≤ R.slots → H[q9]? = some ce → ce.vm = .none → s.vm.findClass E = some ce.cls → vx_W p l e R s m args below meth c H locs cells slots (Qf r) (F0 m pc ls (st.map (qcv g))) q9
/-- a call, with handlers at hand -/
theorem qh_callV (C : qC p l s m meth c cc nL own g) {idx mL n d mc ms kd j N : Nat} {C0 : String} {T : u_T} {y : MethodName} {b : ByteArray} {ret : Option FieldType} {As rest : List qA} {o1 : Option qO} {kv : Option qA → qS → Option qO} {kE : String → qS → Option qO} (hM : qM g l d mc ms (.code y b mL ret) y (qR kd j :: As) σ o1) (hw : qMw y b mL n ret) (hl : Cond.methodLink own idx y ∈ qWA) (hin : Cond.instanceMethod y ∈ qWA) (hse : Cond.selects C0 y y ∈ qWA) (hsh : qsh kd = 0) (hkd : kd < 26) (hj : j < qn kd) (hc : qcls[qci kd]? = some (C0, T, N)) (hn : As.length = n) (hrest : (rest.map qcat).sum ≤ 8) (hR : d + 11 ≤ R.frames ∧ 8 + (mL + 11) + (64 * d + 1000) ≤ R.locals) (dd : decode cc pc = .ok (.invokevirtual idx, 3))
    (hst : st = As.reverse ++ qR kd j :: rest) (k : ∀ (v : Option qA) (σ1 : qS), qV p l e R s m args below meth c g nL Qf (kv v σ1) cb sb (pc + 3) L (v.toList ++ rest) σ1) (kx : ∀ (E : String) (σ1 : qS), qVX p l e R s m args below meth c g nL Qf (kE E σ1) cb sb pc L rest σ1 E) : qV p l e R s m args below meth c g nL Qf (qbind o1 kv kE) (mc + cb) (ms + sb) pc L st σ := by
  subst hst
  intro r hr ls H locs cells slots h1 h2 h3 h4 h5
  match o1, hM, hr with
  | none, _, hr => cases hr
  | some (.inr E, σ1), hM, hr =>
    refine qv_core (qrunV C hM rfl hw hl hin hse hsh hkd hj hc hn hrest hR dd h1 h2 h3 (by omega) (by omega)) h3 (fun v2 hv2 => ?_) (fun E2 hE2 ce q9 H1 locs1 hb1 hS1 hce hcv hcl => ?_)
    · cases hv2
    · cases hE2
      exact kx E σ1 r hr ls H1 locs1 _ _ ce q9 h1 hb1 hS1 (by omega) (by omega) hce hcv hcl
  | some (.inl v, σ1), hM, hr =>
    refine qv_core (qrunV C hM rfl hw hl hin hse hsh hkd hj hc hn hrest hR dd h1 h2 h3 (by omega) (by omega)) h3 (fun v2 hv2 H1 locs1 hb1 hS1 => ?_) (fun E hE2 => ?_)
    · cases hv2
      rw [qv_map]
      exact k v σ1 r hr ls H1 locs1 _ _ h1 hb1 hS1 (by omega) (by omega)
    · cases hE2
end QT
