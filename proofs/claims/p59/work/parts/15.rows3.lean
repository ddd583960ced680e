/-! rows of null, of floats, of the run's constants -/
/-- a double, a float that is a number -/
abbrev qn64 (r : UInt64) : Prop := r &&& 0x7fffffffffffffff ≤ 0x7ff0000000000000
abbrev qn32 (r : UInt32) : Prop := r &&& 0x7fffffff ≤ 0x7f800000
section QR3
variable {p : Program} {l : Launch} {e : Env} {R : Room} {s : State} {m : MethodId} {args : Array Value} {below : List Frame} {meth : Method} {c : Code} {g : qG} {nL : Nat} {Qf : qO → State → Prop} {o : Option qO} {cb sb pc : Nat} {L : List (Option qA)} {st : List qA} {σ : qS} {cc : ByteArray} {own : String}
theorem qv_aload0 (C : qC p l s m meth c cc nL own g) {i : Nat} (d : decode cc pc = .ok (.aload i, 2)) (hl : L[i]? = some (some (.inl .null))) (k : qV p l e R s m args below meth c g nL Qf o cb sb (pc + 2) L (.inl .null :: st) σ) : qV p l e R s m args below meth c g nL Qf o cb sb pc L st σ :=
  fun r hr ls H locs cells slots h1 h2 h3 h4 h5 => lv_aloadN C.1 C.2.1 d (h1.at hl) (k r hr ls H locs cells slots h1 h2 h3 h4 h5)
theorem qv_aload_n0 (C : qC p l s m meth c cc nL own g) {k0 : Fin 4} (d : decode cc pc = .ok (.aload_n k0, 1)) (hl : L[(k0 : Nat)]? = some (some (.inl .null))) (k : qV p l e R s m args below meth c g nL Qf o cb sb (pc + 1) L (.inl .null :: st) σ) : qV p l e R s m args below meth c g nL Qf o cb sb pc L st σ :=
  fun r hr ls H locs cells slots h1 h2 h3 h4 h5 => lv_aload_nN C.1 C.2.1 d rfl (h1.at hl) (k r hr ls H locs cells slots h1 h2 h3 h4 h5)
theorem qv_astore0 (C : qC p l s m meth c cc nL own g) {i : Nat} (d : decode cc pc = .ok (.astore i, 2)) (hn : i < nL) (hk : qok1 L i = true) (k : qV p l e R s m args below meth c g nL Qf o cb sb (pc + 2) (L.set i (some (.inl .null))) st σ) : qV p l e R s m args below meth c g nL Qf o cb sb pc L (.inl .null :: st) σ :=
  fun r hr ls H locs cells slots h1 h2 h3 h4 h5 => lv_astoreN C.1 C.2.1 d h1 hn rfl (fun ls' hl' => k r hr ls' H locs cells slots (qLs.store (v := .inl .null) hk rfl hl') h2 h3 h4 h5)
theorem qv_astore_n0 (C : qC p l s m meth c cc nL own g) {k0 : Fin 4} (d : decode cc pc = .ok (.astore_n k0, 1)) (hn : (k0 : Nat) < nL) (hk : qok1 L k0 = true) (k : qV p l e R s m args below meth c g nL Qf o cb sb (pc + 1) (L.set k0 (some (.inl .null))) st σ) : qV p l e R s m args below meth c g nL Qf o cb sb pc L (.inl .null :: st) σ :=
  fun r hr ls H locs cells slots h1 h2 h3 h4 h5 => lv_astore_nN C.1 C.2.1 d rfl h1 hn rfl (fun ls' hl' => k r hr ls' H locs cells slots (qLs.store (v := .inl .null) hk rfl hl') h2 h3 h4 h5)
theorem qv_i2d (C : qC p l s m meth c cc nL own g) {x : Int32} (d : decode cc pc = .ok (.i2d, 1)) (k : qV p l e R s m args below meth c g nL Qf o cb sb (pc + 1) L (.inl (.double (FP.i2d x)) :: st) σ) : qV p l e R s m args below meth c g nL Qf o cb sb pc L (qI x :: st) σ :=
  fun r hr ls H locs cells slots h1 h2 h3 h4 h5 => lv_i2d C.1 C.2.1 d (k r hr ls H locs cells slots h1 h2 h3 h4 h5)
theorem qv_i2f (C : qC p l s m meth c cc nL own g) {x : Int32} (d : decode cc pc = .ok (.i2f, 1)) (k : qV p l e R s m args below meth c g nL Qf o cb sb (pc + 1) L (.inl (.float (FP.i2f x)) :: st) σ) : qV p l e R s m args below meth c g nL Qf o cb sb pc L (qI x :: st) σ :=
  fun r hr ls H locs cells slots h1 h2 h3 h4 h5 => lv_i2f C.1 C.2.1 d (k r hr ls H locs cells slots h1 h2 h3 h4 h5)
theorem qv_dconst (C : qC p l s m meth c cc nL own g) (d : decode cc pc = .ok (.dconst 0, 1)) (k : qV p l e R s m args below meth c g nL Qf o cb sb (pc + 1) L (.inl (.double 0) :: st) σ) : qV p l e R s m args below meth c g nL Qf o cb sb pc L st σ :=
  fun r hr ls H locs cells slots h1 h2 h3 h4 h5 => lv_dconst0 C.1 C.2.1 d (k r hr ls H locs cells slots h1 h2 h3 h4 h5)
theorem qv_fconst (C : qC p l s m meth c cc nL own g) (d : decode cc pc = .ok (.fconst 0, 1)) (k : qV p l e R s m args below meth c g nL Qf o cb sb (pc + 1) L (.inl (.float 0) :: st) σ) : qV p l e R s m args below meth c g nL Qf o cb sb pc L st σ :=
  fun r hr ls H locs cells slots h1 h2 h3 h4 h5 => lv_fconst0 C.1 C.2.1 d (k r hr ls H locs cells slots h1 h2 h3 h4 h5)
theorem qv_ddiv (C : qC p l s m meth c cc nL own g) {x y : UInt64} (d : decode cc pc = .ok (.ddiv, 1)) (k : qn64 (FP.ddiv x y) → qV p l e R s m args below meth c g nL Qf o cb sb (pc + 1) L (.inl (.double (FP.ddiv x y)) :: st) σ) : qV p l e R s m args below meth c g nL Qf (if qn64 (FP.ddiv x y) then o else none) cb sb pc L (.inl (.double y) :: .inl (.double x) :: st) σ := by
  by_cases h : qn64 (FP.ddiv x y)
  · rw [if_pos h]
    exact fun r hr ls H locs cells slots h1 h2 h3 h4 h5 => lv_ddiv C.1 C.2.1 d h (k h r hr ls H locs cells slots h1 h2 h3 h4 h5)
  · rw [if_neg h]; exact qV.no
theorem qv_fdiv (C : qC p l s m meth c cc nL own g) {x y : UInt32} (d : decode cc pc = .ok (.fdiv, 1)) (k : qn32 (FP.fdiv x y) → qV p l e R s m args below meth c g nL Qf o cb sb (pc + 1) L (.inl (.float (FP.fdiv x y)) :: st) σ) : qV p l e R s m args below meth c g nL Qf (if qn32 (FP.fdiv x y) then o else none) cb sb pc L (.inl (.float y) :: .inl (.float x) :: st) σ := by
  by_cases h : qn32 (FP.fdiv x y)
  · rw [if_pos h]
    exact fun r hr ls H locs cells slots h1 h2 h3 h4 h5 => lv_fdiv C.1 C.2.1 d h (k h r hr ls H locs cells slots h1 h2 h3 h4 h5)
  · rw [if_neg h]; exact qV.no
end QR3
