/-! rows of the texts that are constants, and of their methods -/
section QJ
variable {p : Program} {l : Launch} {e : Env} {R : Room} {s : State} {m : MethodId} {args : Array Value} {below : List Frame} {meth : Method} {c : Code} {g : qG} {nL : Nat} {Qf : qO → State → Prop} {o : Option qO} {cb sb pc : Nat} {L : List (Option qA)} {st : List qA} {σ : qS} {cc : ByteArray} {own : String}
theorem fs_sval : Cond.fieldLink RJ0 9 RJ0 "value" "[B" ∈ qWA := qWA_in (List.mem_of_getElem? (i := 1810) (by decide +kernel)) rfl
theorem fs_scod : Cond.fieldLink RJ0 15 RJ0 "coder" "B" ∈ qWA := qWA_in (List.mem_of_getElem? (i := 1811) (by decide +kernel)) rfl
theorem fs_eord : Cond.fieldLink RJx29ce0 7 RJx29ce0 "ordinal" "I" ∈ qWA := qWA_in (List.mem_of_getElem? (i := 1812) (by decide +kernel)) rfl
theorem fs_comp : Cond.fieldLink RJ0 38 RJ0 "COMPACT_STRINGS" "Z" ∈ qWA := qWA_in (List.mem_of_getElem? (i := 1157) (by decide +kernel)) rfl
theorem fs_sio : Cond.fieldLink RJ0 1053 RJ3 "SIOOBE_FORMATTER" "Ljava/util/function/BiFunction;" ∈ qWA := qWA_in (List.mem_of_getElem? (i := 1173) (by decide +kernel)) rfl
theorem fs_b1 : Cond.constant RJ6 265 1431655765 ∈ qWA := qWA_in (List.mem_of_getElem? (i := 848) (by decide +kernel)) rfl
theorem fs_b2 : Cond.constant RJ6 266 858993459 ∈ qWA := qWA_in (List.mem_of_getElem? (i := 849) (by decide +kernel)) rfl
theorem fs_b3 : Cond.constant RJ6 267 252645135 ∈ qWA := qWA_in (List.mem_of_getElem? (i := 850) (by decide +kernel)) rfl
theorem qv_sval (C : qC p l s m meth c cc nL RJ0 g) {j : Nat} (hj : j < 9) (d : decode cc pc = .ok (.getfield 9, 3)) (k : qV p l e R s m args below meth c g nL Qf o cb sb (pc + 3) L (qR 44 j :: st) σ) : qV p l e R s m args below meth c g nL Qf o cb sb pc L (qR 42 j :: st) σ := by
  intro r hr ls H locs cells slots h1 h2 h3 h4 h5
  obtain ⟨hx0, hb, hml, hown, hE, -, -⟩ := C
  obtain ⟨-, -, -, -, -, hS9, -⟩ := hE.2.2
  obtain ⟨cf, kf, fi, f, cell, e1, e2, e3, e4, e5, e6⟩ := (hS9 j hj).2.2.1.kept h3.2.1
  exact W.getf hx0 hb hown (qword (a := args) hE.1 fs_sval) e1 e2 e3 e4 (v := .ref (g.2.2.1 44 j)) e5 rfl rfl d (k r hr ls H locs cells slots h1 h2 h3 h4 h5)
theorem qv_scod (C : qC p l s m meth c cc nL RJ0 g) {j : Nat} (hj : j < 9) (d : decode cc pc = .ok (.getfield 15, 3)) (k : qV p l e R s m args below meth c g nL Qf o cb sb (pc + 3) L (qI (0 : Int32) :: st) σ) : qV p l e R s m args below meth c g nL Qf o cb sb pc L (qR 42 j :: st) σ := by
  intro r hr ls H locs cells slots h1 h2 h3 h4 h5
  obtain ⟨hx0, hb, hml, hown, hE, -, -⟩ := C
  obtain ⟨-, -, -, -, -, hS9, -⟩ := hE.2.2
  obtain ⟨cf, kf, fi, f, cell, e1, e2, e3, e4, e5, e6⟩ := (hS9 j hj).2.1.kept h3.2.1
  exact W.getf hx0 hb hown (qword (a := args) hE.1 fs_scod) e1 e2 e3 e4 (v := .int 0) e5 rfl rfl d (k r hr ls H locs cells slots h1 h2 h3 h4 h5)
theorem qv_gscs (C : qC p l s m meth c cc nL RJ0 g) (d : decode cc pc = .ok (.getstatic 38, 3)) (k : qV p l e R s m args below meth c g nL Qf o cb sb (pc + 3) L (qI (1 : Int32) :: st) σ) : qV p l e R s m args below meth c g nL Qf o cb sb pc L st σ := by
  intro r hr ls H locs cells slots h1 h2 h3 h4 h5
  obtain ⟨hx0, hb, hml, hown, hE, -, -⟩ := C
  obtain ⟨-, -, -, -, -, -, -, -, ⟨hZ, -⟩, -⟩ := hE.2.2
  exact va_gets hx0 hb hZ h3 hown (qword (a := args) hE.1 fs_comp) (fun _ h => h) d (k r hr ls H locs cells slots h1 h2 h3 h4 h5)
theorem qv_gssi (C : qC p l s m meth c cc nL RJ0 g) (d : decode cc pc = .ok (.getstatic 1053, 3)) (k : ∀ v : Value, v.category = 1 → qV p l e R s m args below meth c g nL Qf o cb sb (pc + 3) L (.inl v :: st) σ) : qV p l e R s m args below meth c g nL Qf o cb sb pc L st σ := by
  intro r hr ls H locs cells slots h1 h2 h3 h4 h5
  obtain ⟨hx0, hb, hml, hown, hE, -, -⟩ := C
  obtain ⟨-, -, -, -, -, -, -, -, ⟨-, hZ⟩, -⟩ := hE.2.2
  rcases hZ with hZ | ⟨t, hZ⟩
  · exact va_gets hx0 hb hZ h3 hown (qword (a := args) hE.1 fs_sio) (fun _ h => h) d (k .null rfl r hr ls H locs cells slots h1 h2 h3 h4 h5)
  · exact va_gets hx0 hb hZ h3 hown (qword (a := args) hE.1 fs_sio) (fun _ h => h) d (k (.ref t) rfl r hr ls H locs cells slots h1 h2 h3 h4 h5)
theorem qv_blen (C : qC p l s m meth c cc nL own g) {j : Nat} (hj : j < 9) (d : decode cc pc = .ok (.arraylength, 1)) (k : qV p l e R s m args below meth c g nL Qf o cb sb (pc + 1) L (qI (Int32.ofNat (qsl j)) :: st) σ) : qV p l e R s m args below meth c g nL Qf o cb sb pc L (qR 44 j :: st) σ := by
  intro r hr ls H locs cells slots h1 h2 h3 h4 h5
  obtain ⟨hx0, hb, hml, hown, hE, -, -⟩ := C
  obtain ⟨-, -, -, -, -, hS9, -⟩ := hE.2.2
  exact va_tlen hx0 hb (hS9 j hj).2.2.2 h3 rfl d (k r hr ls H locs cells slots h1 h2 h3 h4 h5)
theorem qv_bald (C : qC p l s m meth c cc nL own g) {j : Nat} {i : Int32} (hj : j < 9) (d : decode cc pc = .ok (.baload, 1)) (k : qin i (qsl j) → qV p l e R s m args below meth c g nL Qf o cb sb (pc + 1) L (qI (qsc j i.toNatClampNeg) :: st) σ) : qV p l e R s m args below meth c g nL Qf (if qin i (qsl j) then o else none) cb sb pc L (qI i :: qR 44 j :: st) σ := by
  by_cases h : qin i (qsl j)
  · rw [if_pos h]
    intro r hr ls H locs cells slots h1 h2 h3 h4 h5
    obtain ⟨hx0, hb, hml, hown, hE, -, -⟩ := C
    obtain ⟨-, -, -, -, -, hS9, -⟩ := hE.2.2
    exact va_tb hx0 hb (hS9 j hj).2.2.2 h3 (qin_vp h) rfl d (k h r hr ls H locs cells slots h1 h2 h3 h4 h5)
  · rw [if_neg h]; exact qV.no
theorem qv_ldcwI (C : qC p l s m meth c cc nL own g) {idx : Nat} {v : Int32} (hw : Cond.constant own idx v ∈ qWA) (d : decode cc pc = .ok (.ldc_w idx, 3)) (k : qV p l e R s m args below meth c g nL Qf o cb sb (pc + 3) L (qI v :: st) σ) : qV p l e R s m args below meth c g nL Qf o cb sb pc L st σ := by
  intro r hr ls H locs cells slots h1 h2 h3 h4 h5
  obtain ⟨hx0, hb, hml, hown, hE, -, -⟩ := C
  exact lv_ldcw hx0 hb hown (qword (a := args) hE.1 hw) d (k r hr ls H locs cells slots h1 h2 h3 h4 h5)
/-- a text's cell, for its calls -/
theorem qscell (h : qE g s s.heap) {H : Heap} {locs : List Loc} {j : Nat} (h3 : va_S (qAf g) s.heap H locs) (hj : j < 9) : ∃ cellB : Cell, H[g.2.2.1 42 j]? = some cellB ∧ cellB.vm.isStatics = false ∧ s.vm.findClass RJ0 = some cellB.cls := by
  obtain ⟨-, -, -, -, -, hS9, -⟩ := h.2.2
  obtain ⟨cell, e1, e2, e3, -⟩ := (hS9 j hj).1.kept h3.2.1
  exact ⟨cell, e1, e2, e3⟩
/-- a call of a text's method -/
theorem qv_callT (C : qC p l s m meth c cc nL own g) {idx mL n d mc ms j : Nat} {y : MethodName} {b : ByteArray} {ret : Option FieldType} {As rest : List qA} {o1 : Option qO} {kv : Option qA → qS → Option qO} (hM : qM g l d mc ms (.code y b mL ret) y (qR 42 j :: As) σ o1) (hw : qMw y b mL n ret) (hl : Cond.methodLink own idx y ∈ qWA) (hin : Cond.instanceMethod y ∈ qWA) (hse : Cond.selects RJ0 y y ∈ qWA) (hj : j < 9) (hn : As.length = n) (hrest : (rest.map qcat).sum ≤ 8) (hR : d + 11 ≤ R.frames ∧ 8 + (mL + 11) + (64 * d + 1000) ≤ R.locals) (dd : decode cc pc = .ok (.invokevirtual idx, 3)) (hst : st = As.reverse ++ qR 42 j :: rest) (k : ∀ (v : Option qA) (σ1 : qS), qV p l e R s m args below meth c g nL Qf (kv v σ1) cb sb (pc + 3) L (v.toList ++ rest) σ1) : qV p l e R s m args below meth c g nL Qf (qbind o1 kv qE0) (mc + cb) (ms + sb) pc L st σ := by
  subst hst
  intro r hr ls H locs cells slots h1 h2 h3 h4 h5
  match o1, hM, hr with
  | none, _, hr => cases hr
  | some (.inr E, σ1), _, hr => cases hr
  | some (.inl v, σ1), hM, hr =>
    have hrun : vx_Run p l e R s m args below meth c H locs cells slots mc ms (F0 m pc ls ((As.reverse ++ qR 42 j :: rest).map (qcv g))) (rest.map (qcv g)) (qQ g (.inl v, σ1) ((qR 42 j :: As).map (qcv g)).toArray) (qX g (.inl v, σ1)) (qAf g) := by
      obtain ⟨hx0, hb, hml, hown, hE, -, -⟩ := C
      exact vx_runV (C := RJ0) (b := g.2.2.1 42 j) (As := As.map (qcv g)) (rest := rest.map (qcv g)) ⟨hx0, hb, hml, hown, qwords (a := args) hE.1⟩ (hM _ rfl) ⟨qCallB hE.1 hw hl hR, qword hE.1 hin, qword hE.1 hse⟩ ⟨qPc_blind, qscell hE h3 hj, fun U hU hW => ⟨rfl, hE.go hW h3 hU, by rw [hU]; exact h2⟩⟩ rfl (by rw [List.length_map]; exact hn) h1.1 (by simp [qcv]) (qroom hrest) dd ⟨by omega, by omega⟩
    refine qv_core hrun h3 (fun v2 hv2 H1 locs1 hb1 hS1 => ?_) (fun E hE2 => ?_)
    · cases hv2
      rw [qv_map]
      exact k v σ1 r hr ls H1 locs1 _ _ h1 hb1 hS1 (by omega) (by omega)
    · cases hE2
/-- ordinal() of a command -/
abbrev yEord : MethodName := ⟨RJx29ce0, "ordinal", "()I"⟩
abbrev yCord : MethodName := ⟨RX1, "ordinal", "()I"⟩
theorem dEord_0 : decode prog_16_method_2_code 0 = .ok (.aload_n 0, 1) := by decide +kernel
theorem dEord_1 : decode prog_16_method_2_code 1 = .ok (.getfield 7, 3) := by decide +kernel
theorem dEord_4 : decode prog_16_method_2_code 4 = .ok (.ireturn, 1) := by decide +kernel
theorem qv_eord (C : qC p l s m meth c cc nL RJx29ce0 g) {j : Nat} (hj : j < 8) (d : decode cc pc = .ok (.getfield 7, 3)) (k : qV p l e R s m args below meth c g nL Qf o cb sb (pc + 3) L (qI (nI j) :: st) σ) : qV p l e R s m args below meth c g nL Qf o cb sb pc L (qR 40 j :: st) σ := by
  intro r hr ls H locs cells slots h1 h2 h3 h4 h5
  obtain ⟨hx0, hb, hml, hown, hE, -, -⟩ := C
  obtain ⟨-, -, hO, -⟩ := hE.2.2
  obtain ⟨cf, kf, fi, f, cell, e1, e2, e3, e4, e5, e6⟩ := (hO j hj).kept h3.2.1
  exact W.getf hx0 hb hown (qword (a := args) hE.1 fs_eord) e1 e2 e3 e4 (v := .int (nI j)) e5 rfl rfl d (k r hr ls H locs cells slots h1 h2 h3 h4 h5)
end QJ
