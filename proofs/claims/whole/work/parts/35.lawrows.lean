/-! rows that the law alone wants: the script, longs, doubles and floats in locals, its ends -/
/-- the script at the cell of kind 45 -/
def qSc (g : qG) (s : State) (LL : Nat) (xs : Nat → Int32) : Prop := va_X (g.2.2.1 45 0) LL xs s s.heap ∧ g.2.2.1 45 0 < s.heap.size ∧ ¬ qAf g (g.2.2.1 45 0)
/-- what the law's end wants -/
def qLe (p : Program) (l : Launch) (s : State) (meth : Method) (c : Code) (g : qG) : Prop := p.tables.exec = Jvm.exec ∧ c.code = code ∧ meth.sig.returnType = ret ∧ meth.locks = false ∧ g.2.2.2 = s.heap.size
/-- the law's end: true is what it is to answer -/
def qLf (below : List Frame) (bq : Nat) (s : State) : qO → State → Prop := fun r t => r.1 = .inl (some (qI 1)) → lw_Z below #[Value.ref bq] s t
section QL
variable {p : Program} {l : Launch} {e : Env} {R : Room} {s : State} {m : MethodId} {args : Array Value} {below : List Frame} {meth : Method} {c : Code} {g : qG} {nL : Nat} {Qf : qO → State → Prop} {o : Option qO} {cb sb pc : Nat} {L : List (Option qA)} {st : List qA} {σ : qS} {cc : ByteArray} {own : String}
theorem qLs.store2 {ls' : Array Slot} {i : Nat} {v : qA} {lv' : List (Nat × Value)} (hk : qok1 L i = true) (hl : (i, qcv g v) :: (qlc g 0 L).filter (fun q => !(q.1 == i) && (!(q.1 == i + 1) && !(q.1 + 1 == i && q.2.category == 2))) = lv') (h : lv_has ls' nL lv') : qLs g ls' nL ((L.set i (some v)).set (i + 1) none) := by
  refine ⟨h.1, h.2.1, fun q hq => ?_⟩
  refine h.2.2 q ?_
  rw [← hl]
  obtain ⟨j, w, h1, h2, h3⟩ := qlc_mem g _ 0 q hq
  rw [Nat.zero_add] at h1
  have hj1 : ¬ j = i + 1 := by
    intro hj
    subst hj
    by_cases hlt : i + 1 < (L.set i (some v)).length
    · rw [List.getElem?_set_self hlt] at h2; cases h2
    · rw [List.getElem?_eq_none (by rw [List.length_set]; omega)] at h2; cases h2
  rw [List.getElem?_set_ne (Ne.symm hj1)] at h2
  by_cases hj : j = i
  · subst hj
    have hlt : j < L.length := by
      have := (List.getElem?_eq_some_iff.mp h2).1
      simpa using this
    rw [List.getElem?_set_self hlt] at h2
    cases h2
    have : q = (j, qcv g v) := by cases q; simp_all
    rw [this]; exact List.mem_cons_self
  · rw [List.getElem?_set_ne (Ne.symm hj)] at h2
    refine List.mem_cons_of_mem _ (List.mem_filter.mpr ⟨?_, ?_⟩)
    · have h4 := qlc_get g L 0 j w h2
      rw [Nat.zero_add] at h4
      have : q = (j, qcv g w) := by cases q; simp_all
      rw [this]; exact h4
    · rw [h1, h3, qcat_cv]
      have e1 : (j == i) = false := by simp [hj]
      have e3 : (j == i + 1) = false := by simp [hj1]
      rw [e1, e3]
      by_cases hj2 : j + 1 = i
      · subst hj2
        simp only [qok1, h2] at hk
        have : qcat w = 1 := by simpa using hk
        simp [this]
      · simp [hj2]
theorem qv_dload (C : qC p l s m meth c cc nL own g) {i : Nat} {x : UInt64} (d : decode cc pc = .ok (.dload i, 2)) (hl : L[i]? = some (some (.inl (.double x)))) (k : qV p l e R s m args below meth c g nL Qf o cb sb (pc + 2) L (.inl (.double x) :: st) σ) : qV p l e R s m args below meth c g nL Qf o cb sb pc L st σ :=
  fun r hr ls H locs cells slots h1 h2 h3 h4 h5 => lv_dload C.1 C.2.1 d (h1.at hl) (k r hr ls H locs cells slots h1 h2 h3 h4 h5)
theorem qv_fload (C : qC p l s m meth c cc nL own g) {i : Nat} {x : UInt32} (d : decode cc pc = .ok (.fload i, 2)) (hl : L[i]? = some (some (.inl (.float x)))) (k : qV p l e R s m args below meth c g nL Qf o cb sb (pc + 2) L (.inl (.float x) :: st) σ) : qV p l e R s m args below meth c g nL Qf o cb sb pc L st σ :=
  fun r hr ls H locs cells slots h1 h2 h3 h4 h5 => lv_fload C.1 C.2.1 d (h1.at hl) (k r hr ls H locs cells slots h1 h2 h3 h4 h5)
theorem qv_fstore (C : qC p l s m meth c cc nL own g) {i : Nat} {x : UInt32} (d : decode cc pc = .ok (.fstore i, 2)) (hn : i < nL) (hk : qok1 L i = true) (k : qV p l e R s m args below meth c g nL Qf o cb sb (pc + 2) (L.set i (some (.inl (.float x)))) st σ) : qV p l e R s m args below meth c g nL Qf o cb sb pc L (.inl (.float x) :: st) σ :=
  fun r hr ls H locs cells slots h1 h2 h3 h4 h5 => lv_fstore C.1 C.2.1 d h1 hn rfl (fun ls' hl' => k r hr ls' H locs cells slots (qLs.store (v := .inl (.float x)) hk rfl hl') h2 h3 h4 h5)
theorem qv_dstore (C : qC p l s m meth c cc nL own g) {i : Nat} {x : UInt64} (d : decode cc pc = .ok (.dstore i, 2)) (hn : i + 1 < nL) (hk : qok1 L i = true) (k : qV p l e R s m args below meth c g nL Qf o cb sb (pc + 2) ((L.set i (some (.inl (.double x)))).set (i + 1) none) st σ) : qV p l e R s m args below meth c g nL Qf o cb sb pc L (.inl (.double x) :: st) σ :=
  fun r hr ls H locs cells slots h1 h2 h3 h4 h5 => lv_dstore C.1 C.2.1 d h1 hn rfl (fun ls' hl' => k r hr ls' H locs cells slots (qLs.store2 (v := .inl (.double x)) hk rfl hl') h2 h3 h4 h5)
theorem qv_lcmp (C : qC p l s m meth c cc nL own g) {x y : Int64} (d : decode cc pc = .ok (.lcmp, 1)) (k : qV p l e R s m args below meth c g nL Qf o cb sb (pc + 1) L (qI (lg_cmp x y) :: st) σ) : qV p l e R s m args below meth c g nL Qf o cb sb pc L (.inl (.long y) :: .inl (.long x) :: st) σ :=
  fun r hr ls H locs cells slots h1 h2 h3 h4 h5 => W.lcmp C.1 C.2.1 d (k r hr ls H locs cells slots h1 h2 h3 h4 h5)
theorem qv_slen (C : qC p l s m meth c cc nL own g) {LL : Nat} {xs : Nat → Int32} (hX : qSc g s LL xs) (d : decode cc pc = .ok (.arraylength, 1)) (k : qV p l e R s m args below meth c g nL Qf o cb sb (pc + 1) L (qI (Int32.ofNat LL) :: st) σ) : qV p l e R s m args below meth c g nL Qf o cb sb pc L (qR 45 0 :: st) σ :=
  fun r hr ls H locs cells slots h1 h2 h3 h4 h5 => va_slen C.1 C.2.1 hX.1 hX.2.1 hX.2.2 h3 d (k r hr ls H locs cells slots h1 h2 h3 h4 h5)
theorem qv_sld (C : qC p l s m meth c cc nL own g) {LL : Nat} {xs : Nat → Int32} (hX : qSc g s LL xs) {i : Int32} (d : decode cc pc = .ok (.iaload, 1)) (k : qin i LL → qV p l e R s m args below meth c g nL Qf o cb sb (pc + 1) L (qI (xs i.toNatClampNeg) :: st) σ) : qV p l e R s m args below meth c g nL Qf (if qin i LL then o else none) cb sb pc L (qI i :: qR 45 0 :: st) σ := by
  by_cases h : qin i LL
  · rw [if_pos h]
    exact fun r hr ls H locs cells slots h1 h2 h3 h4 h5 => va_sld C.1 C.2.1 hX.1 hX.2.1 hX.2.2 h3 (qin_vp h) d (k h r hr ls H locs cells slots h1 h2 h3 h4 h5)
  · rw [if_neg h]; exact qV.no
theorem qv_lret0 {bq : Nat} (C : qC p l s m meth c cc nL own g) (C0 : qLe p l s meth c g) (d : decode cc pc = .ok (.ireturn, 1)) : qV p l e R s m args below meth c g nL (qLf below bq s) (some (.inl (some (qI (0 : Int32))), σ)) cb sb pc L [qI (0 : Int32)] σ := by
  intro r h0 ls H locs cells slots h1 h2 h3 h4 h5 T hT X
  cases h0
  exact ⟨_, Steps.refl _, fun h => by cases h⟩
theorem qv_lret1 {bq : Nat} (C : qC p l s m meth c cc nL own g) (C0 : qLe p l s meth c g) (d : decode cL_law pc = .ok (.ireturn, 1)) : qV p l e room_1 s m #[Value.ref bq] below meth c g nL (qLf below bq s) (some (.inl (some (qI (1 : Int32))), σ)) cb sb pc L [qI (1 : Int32)] σ := by
  intro r h0 ls H locs cells slots h1 h2 h3 h4 h5
  cases h0
  obtain ⟨hx0, hb, hr, hlk, hgs⟩ := C0
  have hd0 := Drawn.sameBut.refl s.drawn lw_cs
  have K : W p l e room_1 s m #[Value.ref bq] below meth c H locs cells slots (lw_Z below #[Value.ref bq] s) (F0 m pc ls [.int 1]) := by
    refine va_forget (fun q hq => by rw [← hgs]; exact h3.2.2 q hq) ?_
    refine W.widen (k := 603072) (n := 7207018) (by have : cells + cb ≤ 603072 := h4; omega) (by have : slots + sb ≤ 7207018 := h5; omega) ?_
    refine W.base ?_
    exact lw_ret hd0 hx0 hb hr hlk d
  intro T hT X
  obtain ⟨t, a1, b1⟩ := K T hT X
  exact ⟨t, a1, fun _ => b1⟩
end QL
