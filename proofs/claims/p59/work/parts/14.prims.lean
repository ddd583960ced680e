/-! Math, and small helps of the printed functions -/
abbrev qmax (x y : Int32) : Int32 := if x < y then y else x
abbrev qmin (x y : Int32) : Int32 := if y < x then y else x
abbrev qabs (x : Int32) : Int32 := if 0 ≤ x then x else 0 - x
/-- a name for a state on the way -/
def qlet {α β : Type} (v : α) (k : α → β) : β := k v
/-- a loop's fuel -/
def qFU : Nat := 100000
section QP
variable {p : Program} {l : Launch} {e : Env} {R : Room} {s : State} {m : MethodId} {args : Array Value} {below : List Frame} {meth : Method} {c : Code} {g : qG} {nL : Nat} {Qf : qO → State → Prop} {o : Option qO} {cb sb pc : Nat} {L : List (Option qA)} {st : List qA} {σ : qS} {cc : ByteArray} {own : String}
theorem qv_let {k : qS → Option qO} (h : ∀ σ1 : qS, qV p l e R s m args below meth c g nL Qf (k σ1) cb sb pc L st σ1) : qV p l e R s m args below meth c g nL Qf (qlet σ k) cb sb pc L st σ := h σ
theorem qv_mmax (C : qC p l s m meth c cc nL own g) {idx : Nat} {x y : Int32} (hl : Cond.methodLink own idx Lib.Math.max.name ∈ qWA) (hw : Cond.static Lib.Math.max.name ∈ qWA ∧ Cond.initialized "java/lang/Math" ∈ qWA ∧ Cond.code Lib.Math.max.name Lib.Math.max.code 2 (some .int) ∈ qWA) (hrest : (st.map qcat).sum ≤ 8) (hR : 1 ≤ R.frames ∧ 21 ≤ R.locals) (d : decode cc pc = .ok (.invokestatic idx, 3)) (k : qV p l e R s m args below meth c g nL Qf o cb sb (pc + 3) L (qI (qmax x y) :: st) σ) : qV p l e R s m args below meth c g nL Qf o cb sb pc L (qI y :: qI x :: st) σ := by
  intro r hr ls H locs cells slots h1 h2 h3 h4 h5
  obtain ⟨hx0, hb, hml, hown, hE, -, -⟩ := C
  exact va_mmax hx0 hb (hml.trans h1.1.symm) hown (qword hE.1 hl) (qword hE.1 hw.1) (qword hE.1 hw.2.1) (qword hE.1 hw.2.2) hR.1 (by rw [qcat_sum]; omega) (by omega) (by omega) d (k r hr ls H locs cells slots h1 h2 h3 h4 h5)
theorem qv_mmin (C : qC p l s m meth c cc nL own g) {idx : Nat} {x y : Int32} (hl : Cond.methodLink own idx Lib.Math.min.name ∈ qWA) (hw : Cond.static Lib.Math.min.name ∈ qWA ∧ Cond.initialized "java/lang/Math" ∈ qWA ∧ Cond.code Lib.Math.min.name Lib.Math.min.code 2 (some .int) ∈ qWA) (hrest : (st.map qcat).sum ≤ 8) (hR : 1 ≤ R.frames ∧ 21 ≤ R.locals) (d : decode cc pc = .ok (.invokestatic idx, 3)) (k : qV p l e R s m args below meth c g nL Qf o cb sb (pc + 3) L (qI (qmin x y) :: st) σ) : qV p l e R s m args below meth c g nL Qf o cb sb pc L (qI y :: qI x :: st) σ := by
  intro r hr ls H locs cells slots h1 h2 h3 h4 h5
  obtain ⟨hx0, hb, hml, hown, hE, -, -⟩ := C
  exact va_mmin hx0 hb (hml.trans h1.1.symm) hown (qword hE.1 hl) (qword hE.1 hw.1) (qword hE.1 hw.2.1) (qword hE.1 hw.2.2) hR.1 (by rw [qcat_sum]; omega) (by omega) (by omega) d (k r hr ls H locs cells slots h1 h2 h3 h4 h5)
theorem qv_mabs (C : qC p l s m meth c cc nL own g) {idx : Nat} {x : Int32} (hl : Cond.methodLink own idx Lib.Math.abs.name ∈ qWA) (hw : Cond.static Lib.Math.abs.name ∈ qWA ∧ Cond.initialized "java/lang/Math" ∈ qWA ∧ Cond.code Lib.Math.abs.name Lib.Math.abs.code 1 (some .int) ∈ qWA) (hrest : (st.map qcat).sum ≤ 8) (hR : 1 ≤ R.frames ∧ 21 ≤ R.locals) (d : decode cc pc = .ok (.invokestatic idx, 3)) (k : qV p l e R s m args below meth c g nL Qf o cb sb (pc + 3) L (qI (qabs x) :: st) σ) : qV p l e R s m args below meth c g nL Qf o cb sb pc L (qI x :: st) σ := by
  intro r hr ls H locs cells slots h1 h2 h3 h4 h5
  obtain ⟨hx0, hb, hml, hown, hE, -, -⟩ := C
  exact va_mabs hx0 hb (hml.trans h1.1.symm) hown (qword hE.1 hl) (qword hE.1 hw.1) (qword hE.1 hw.2.1) (qword hE.1 hw.2.2) hR.1 (by rw [qcat_sum]; omega) (by omega) (by omega) d (k r hr ls H locs cells slots h1 h2 h3 h4 h5)
end QP
