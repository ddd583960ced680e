/-! rows of null, of floats, of the run's constants -/
/-- a double, a float that is a number -/
abbrev qn64 (r : UInt64) : Prop := r &&& 0x7fffffffffffffff ≤ 0x7ff0000000000000
abbrev qn32 (r : UInt32) : Prop := r &&& 0x7fffffff ≤ 0x7f800000
section QR3
variable {p : Program} {l : Launch} {e : Env} {R : Room} {s : State} {m : MethodId} {args : Array Value} {below : List Frame} {meth : Method} {c : Code} {g : qG} {nL : Nat} {Qf : qO → State → Prop} {o : Option qO} {cb sb pc : Nat} {L : List (Option qA)} {st : List qA} {σ : qS} {cc : ByteArray} {own : String}
theorem qv_aload0 (C : qC p l s m meth c cc nL own g) {i : Nat} (d : decode cc pc = .ok (.aload i, 2)) (hl : L[i]? = some (some (.inl .null))) (k : qV p l e R s m args below meth c g nL Qf o cb sb (pc + 2) L (.inl .null :: st) σ) : qV p l e R s m args below meth c g nL Qf o cb sb pc L st σ :=
  fun r hr ls H locs cells slots h1 h2 h3 h4 h5 => lv_aloadN C.1 C.2.1 d (h1.at hl) (k r hr ls H locs cells slots h1 h2 h3 h4 h5)
theorem qv_aload_n0 (C : qC p l s m meth c cc nL own g) {k0 : Fin 4} (d : decode cc pc = .ok (.aload_n k0, 1)) (hl : L[(k0 : Nat)]? = some (some (.inl .null))) (k : qV p l e R s m args below meth c g nL Qf o cb sb (pc + 1) L (.inl .null :: st) σ) : qV p l e R s m args below meth c g nL Qf o cb sb pc L st σ :=
  fun r hr ls H locs cells slots h1 h2 h3 h4 h5 => lv_aload_nN C.1 C.2.1 d rfl (h1.at hl) (k r hr ls H locs cells slots h1 h2 h3 h4 h5)
theorem qv_astore0 (C : qC p l s m meth c cc nL own g) {i : Nat} (d : decode cc pc = .ok (.astore i, 2)) (hn : i < nL) (hk : qok1 L i = true) (k : qV p l e R s m args below meth c g nL Qf o cb sb (pc + 2) (L.set i (some (.inl .null))) st σ) : qV p l e R s m args below meth c g nL Qf o cb sb pc L (.inl .null :: st) σ :=
  fun r hr ls H locs cells slots h1 h2 h3 h4 h5 => lv_astoreN C.1 C.2.1 d h1 hn rfl (fun ls' hl' => k r hr ls' H locs cells slots (qLs.store (v := .inl .null) hk rfl hl') h2 h3 h4 h5)
theorem qv_astore_n0 (C : qC p l s m meth c cc nL own g) {k0 : Fin 4} (d : decode cc pc = .ok (.astore_n k0, 1)) (hn : (k0 : Nat) < nL) (hk : qok1 L k0 = true) (k : qV p l e R s m args below meth c g nL Qf o cb sb (pc + 1) (L.set k0 (some (.inl .null))) st σ) : qV p l e R s m args below meth c g nL Qf o cb sb pc L (.inl .null :: st) σ :=
  fun r hr ls H locs cells slots h1 h2 h3 h4 h5 => lv_astore_nN C.1 C.2.1 d rfl h1 hn rfl (fun ls' hl' => k r hr ls' H locs cells slots (qLs.store (v := .inl .null) hk rfl hl') h2 h3 h4 h5)
theorem qv_i2d (C : qC p l s m meth c cc nL own g) {x : Int32} (d : decode cc pc = .ok (.i2d, 1)) (k : qV p l e R s m args below meth c g nL Qf o cb sb (pc + 1) L (.inl (.double (FP.i2d x)) :: st) σ) : qV p l e R s m args below meth c g nL Qf o cb sb pc L (qI x :: st) σ :=
  fun r hr ls H locs cells slots h1 h2 h3 h4 h5 => lv_i2d C.1 C.2.1 d (k r hr ls H locs cells slots h1 h2 h3 h4 h5)
theorem qv_i2f (C : qC p l s m meth c cc nL own g) {x : Int32} (d : decode cc pc = .ok (.i2f, 1)) (k : qV p l e R s m args below meth c g nL Qf o cb sb (pc + 1) L (.inl (.float (FP.i2f x)) :: st) σ) : qV p l e R s m args below meth c g nL Qf o cb sb pc L (qI x :: st) σ :=
  fun r hr ls H locs cells slots h1 h2 h3 h4 h5 => lv_i2f C.1 C.2.1 d (k r hr ls H locs cells slots h1 h2 h3 h4 h5)
theorem qv_dconst (C : qC p l s m meth c cc nL own g) (d : decode cc pc = .ok (.dconst 0, 1)) (k : qV p l e R s m args below meth c g nL Qf o cb sb (pc + 1) L (.inl (.double 0) :: st) σ) : qV p l e R s m args below meth c g nL Qf o cb sb pc L st σ :=
  fun r hr ls H locs cells slots h1 h2 h3 h4 h5 => lv_dconst0 C.1 C.2.1 d (k r hr ls H locs cells slots h1 h2 h3 h4 h5)
theorem qv_fconst (C : qC p l s m meth c cc nL own g) (d : decode cc pc = .ok (.fconst 0, 1)) (k : qV p l e R s m args below meth c g nL Qf o cb sb (pc + 1) L (.inl (.float 0) :: st) σ) : qV p l e R s m args below meth c g nL Qf o cb sb pc L st σ :=
  fun r hr ls H locs cells slots h1 h2 h3 h4 h5 => lv_fconst0 C.1 C.2.1 d (k r hr ls H locs cells slots h1 h2 h3 h4 h5)
theorem qv_ddiv (C : qC p l s m meth c cc nL own g) {x y : UInt64} (d : decode cc pc = .ok (.ddiv, 1)) (k : qn64 (FP.ddiv x y) → qV p l e R s m args below meth c g nL Qf o cb sb (pc + 1) L (.inl (.double (FP.ddiv x y)) :: st) σ) : qV p l e R s m args below meth c g nL Qf (if qn64 (FP.ddiv x y) then o else none) cb sb pc L (.inl (.double y) :: .inl (.double x) :: st) σ := by
  by_cases h : qn64 (FP.ddiv x y)
  · rw [if_pos h]
    exact fun r hr ls H locs cells slots h1 h2 h3 h4 h5 => lv_ddiv C.1 C.2.1 d h (k h r hr ls H locs cells slots h1 h2 h3 h4 h5)
  · rw [if_neg h]; exact qV.no
theorem qv_fdiv (C : qC p l s m meth c cc nL own g) {x y : UInt32} (d : decode cc pc = .ok (.fdiv, 1)) (k : qn32 (FP.fdiv x y) → qV p l e R s m args below meth c g nL Qf o cb sb (pc + 1) L (.inl (.float (FP.fdiv x y)) :: st) σ) : qV p l e R s m args below meth c g nL Qf (if qn32 (FP.fdiv x y) then o else none) cb sb pc L (.inl (.float y) :: .inl (.float x) :: st) σ := by
  by_cases h : qn32 (FP.fdiv x y)
  · rw [if_pos h]
    exact fun r hr ls H locs cells slots h1 h2 h3 h4 h5 => lv_fdiv C.1 C.2.1 d h (k h r hr ls H locs cells slots h1 h2 h3 h4 h5)
  · rw [if_neg h]; exact qV.no
/-- a command's form -/
theorem fs_form : Cond.fieldLinkNest RX6 50 RX1 "form" "Ljava/lang/String;" "TaskLeveller" ∈ qWA := qWA_in (List.mem_of_getElem? (i := 1809) (by decide +kernel)) rfl
theorem qv_form (C : qC p l s m meth c cc nL RX6 g) {c0 : Nat} (hc : c0 < 8) (d : decode cc pc = .ok (.getfield 50, 3)) (k : qV p l e R s m args below meth c g nL Qf o cb sb (pc + 3) L (qR 42 c0 :: st) σ) : qV p l e R s m args below meth c g nL Qf o cb sb pc L (qR 40 c0 :: st) σ := by
  intro r hr ls H locs cells slots h1 h2 h3 h4 h5
  obtain ⟨hx0, hb, hml, hown, hE, -, -⟩ := C
  obtain ⟨cf, kf, fi, f, cell, e1, e2, e3, e4, e5, e6⟩ := (hE.2.2.2.1 c0 hc).kept h3.2.1
  exact va_Wgetf hx0 hb hown (qword (a := args) hE.1 fs_form) e1 e2 e3 e4 e5 rfl rfl d (k r hr ls H locs cells slots h1 h2 h3 h4 h5)
theorem fs_cmds : Cond.fieldLinkNest RX6 47 RX7 "COMMANDS" "[LTaskLeveller$Command;" "TaskLeveller" ∈ qWA := qWA_in (List.mem_of_getElem? (i := 1143) (by decide +kernel)) rfl
theorem qv_gsC (C : qC p l s m meth c cc nL RX6 g) (d : decode cc pc = .ok (.getstatic 47, 3)) (k : qV p l e R s m args below meth c g nL Qf o cb sb (pc + 3) L (qR 41 0 :: st) σ) : qV p l e R s m args below meth c g nL Qf o cb sb pc L st σ := by
  intro r hr ls H locs cells slots h1 h2 h3 h4 h5
  obtain ⟨hx0, hb, hml, hown, hE, -, -⟩ := C
  obtain ⟨-, -, -, hZ, -⟩ := hE.2.2
  exact va_getsN hx0 hb hZ h3 hown (qword (a := args) hE.1 fs_cmds) (fun _ h => h) d (k r hr ls H locs cells slots h1 h2 h3 h4 h5)
theorem fs_smap : Cond.fieldLink RX7 364 RX0 "$SwitchMap$TaskLeveller$Command" "[I" ∈ qWA := qWA_in (List.mem_of_getElem? (i := 1227) (by decide +kernel)) rfl
theorem qv_gsM (C : qC p l s m meth c cc nL RX7 g) (d : decode cc pc = .ok (.getstatic 364, 3)) (k : qV p l e R s m args below meth c g nL Qf o cb sb (pc + 3) L (qR 43 0 :: st) σ) : qV p l e R s m args below meth c g nL Qf o cb sb pc L st σ := by
  intro r hr ls H locs cells slots h1 h2 h3 h4 h5
  obtain ⟨hx0, hb, hml, hown, hE, -, -⟩ := C
  obtain ⟨-, -, -, -, -, -, hZ, -⟩ := hE.2.2
  exact va_gets hx0 hb hZ h3 hown (qword (a := args) hE.1 fs_smap) (fun _ h => h) d (k r hr ls H locs cells slots h1 h2 h3 h4 h5)
theorem qv_alen41 (C : qC p l s m meth c cc nL own g) (d : decode cc pc = .ok (.arraylength, 1)) (k : qV p l e R s m args below meth c g nL Qf o cb sb (pc + 1) L (qI (8 : Int32) :: st) σ) : qV p l e R s m args below meth c g nL Qf o cb sb pc L (qR 41 0 :: st) σ := by
  intro r hr ls H locs cells slots h1 h2 h3 h4 h5
  obtain ⟨hx0, hb, hml, hown, hE, -, -⟩ := C
  obtain ⟨-, -, -, -, hT, -⟩ := hE.2.2
  exact va_tlen hx0 hb hT h3 rfl d (k r hr ls H locs cells slots h1 h2 h3 h4 h5)
theorem qv_ald41 (C : qC p l s m meth c cc nL own g) {i : Int32} (d : decode cc pc = .ok (.aaload, 1)) (k : qin i 8 → qV p l e R s m args below meth c g nL Qf o cb sb (pc + 1) L (qR 40 i.toNatClampNeg :: st) σ) : qV p l e R s m args below meth c g nL Qf (if qin i 8 then o else none) cb sb pc L (qI i :: qR 41 0 :: st) σ := by
  by_cases h : qin i 8
  · rw [if_pos h]
    intro r hr ls H locs cells slots h1 h2 h3 h4 h5
    obtain ⟨hx0, hb, hml, hown, hE, -, -⟩ := C
    obtain ⟨-, -, -, -, ⟨cell, e1, e2, e3, e4, e5, e6, e7⟩, -⟩ := hE.2.2
    have hin := qin_vp h
    have hlt : i.toNatClampNeg < 8 := q8lt h
    have hin' : ¬ (i < 0 ∨ cell.slots.size ≤ i.toNatClampNeg) := by
      intro q
      rcases q with q | q
      · exact hin (Or.inl q)
      · omega
    exact W.aald (v := .ref (g.2.2.1 40 i.toNatClampNeg)) (ty := .object RX1) hx0 hb (by rw [h3.2.1 _ (Array.getElem?_eq_some_iff.mp e1).1 e7]; exact e1) e2 rfl e3 hin' (by rw [e6 _ hlt]) rfl rfl d (k h r hr ls H locs cells slots h1 h2 h3 h4 h5)
  · rw [if_neg h]; exact qV.no
theorem qv_ald43 (C : qC p l s m meth c cc nL own g) {i : Int32} (d : decode cc pc = .ok (.iaload, 1)) (k : qin i 8 → qV p l e R s m args below meth c g nL Qf o cb sb (pc + 1) L (qI (qkm i.toNatClampNeg) :: st) σ) : qV p l e R s m args below meth c g nL Qf (if qin i 8 then o else none) cb sb pc L (qI i :: qR 43 0 :: st) σ := by
  by_cases h : qin i 8
  · rw [if_pos h]
    intro r hr ls H locs cells slots h1 h2 h3 h4 h5
    obtain ⟨hx0, hb, hml, hown, hE, -, -⟩ := C
    obtain ⟨-, -, -, -, -, -, -, hT, -⟩ := hE.2.2
    exact va_ti hx0 hb hT h3 (qin_vp h) rfl d (k h r hr ls H locs cells slots h1 h2 h3 h4 h5)
  · rw [if_neg h]; exact qV.no
theorem qcmd_any {s : State} {H : Heap} {locs : List Loc} (hE : qE g s s.heap) (h3 : va_S (qAf g) s.heap H locs) {c0 : Nat} (hc : c0 < 8) : va_Any RX1 s H (g.2.2.1 40 c0) := by
  obtain ⟨cell, e1, e2, e3, e4⟩ := (hE.2.2.1 c0 hc).kept h3.2.1
  obtain ⟨kC, hk, -⟩ := Vm.findClass_spec e3
  exact ⟨cell, e1, e2, ⟨kC, hk⟩, fun comp h => by cases e3.symm.trans h; exact va_asg _ _⟩
theorem q8p1 {n : Nat} (h : n < 8) : ¬ nI (n + 1) = 0 ∧ (nI (n + 1) - 1).toNatClampNeg = n := by
  revert n
  decide
theorem qv_astC (C : qC p l s m meth c cc nL own g) {c0 : Nat} {i : Int32} (hc : c0 < 8) (d : decode cc pc = .ok (.aastore, 1)) (k : qin i 60 → qV p l e R s m args below meth c g nL Qf o cb sb (pc + 1) L st (qu σ 21 0 i.toNatClampNeg (nI (c0 + 1)))) : qV p l e R s m args below meth c g nL Qf (if qin i 60 then o else none) cb sb pc L (qR 40 c0 :: qI i :: qR 21 0 :: st) σ := by
  by_cases h : qin i 60
  · rw [if_pos h]
    intro r hr ls H locs cells slots h1 h2 h3 h4 h5
    obtain ⟨hx0, hb, hml, hown, hE, -, -⟩ := C
    obtain ⟨q0, hc0, hq⟩ := qws_at g σ (k := 21) (j := 0) (by decide) (by decide)
    have hset := qws_set' (i := i.toNatClampNeg) (v := nI (c0 + 1)) (e1 := .inl (g.2.1 3, qlen 21, .inr (.inr (.inr (.inr (va_up (fun i => if σ 21 0 i = 0 then none else some (g.2.2.1 40 (σ 21 0 i - 1).toNatClampNeg)) i.toNatClampNeg (some (g.2.2.1 40 c0)))))))) h2.2 hc0 hq (by
      rw [qent4 rfl]
      congr 7
      funext z
      by_cases hz : z = i.toNatClampNeg
      · simp [va_up, upd, hz, (q8p1 hc).1, (q8p1 hc).2]
      · simp [va_up, upd, hz])
    rw [qent4 rfl] at hq
    exact va_astqM hx0 hb hE.1.1 h2.1 h2.2 h3 q0 3 hq rfl (qcmd_any hE h3 hc) (qin_vp h) d (fun H1 locs1 hP1 hD1 hS1 => k h r hr ls H1 locs1 cells slots h1 ⟨hset ▸ hP1, hset ▸ hD1⟩ hS1 h4 h5)
  · rw [if_neg h]; exact qV.no
/-- the names' text -/
theorem qv_ldcN (C : qC p l s m meth c cc nL RX8 g) (d : decode cc pc = .ok (.ldc 218, 2)) (k : qV p l e R s m args below meth c g nL Qf o cb sb (pc + 2) L (qR 42 8 :: st) σ) : qV p l e R s m args below meth c g nL Qf o cb sb pc L st σ := by
  intro r hr ls H locs cells slots h1 h2 h3 h4 h5
  obtain ⟨hx0, hb, hml, hown, hE, -, -⟩ := C
  exact va_ldcS hx0 hb hown hE.1.2.2.1 d (k r hr ls H locs cells slots h1 h2 h3 h4 h5)
end QR3
