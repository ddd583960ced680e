/-! rows of doubles and floats in locals -/
section QL
variable {p : Program} {l : Launch} {e : Env} {R : Room} {s : State} {m : MethodId} {args : Array Value} {below : List Frame} {meth : Method} {c : Code} {g : qG} {nL : Nat} {Qf : qO → State → Prop} {o : Option qO} {cb sb pc : Nat} {L : List (Option qA)} {st : List qA} {σ : qS} {cc : ByteArray} {own : String}
theorem qLs.store2 {ls' : Array Slot} {i : Nat} {v : qA} {lv' : List (Nat × Value)} (hk : qok1 L i = true) (hl : (i, qcv g v) :: (qlc g 0 L).filter (fun q => !(q.1 == i) && (!(q.1 == i + 1) && !(q.1 + 1 == i && q.2.category == 2))) = lv') (h : lv_has ls' nL lv') : qLs g ls' nL ((L.set i (some v)).set (i + 1) none) := by
  refine ⟨h.1, h.2.1, fun q hq => ?_⟩
  refine h.2.2 q ?_
  rw [← hl]
  obtain ⟨j, w, h1, h2, h3⟩ := qlc_mem g _ 0 q hq
  rw [Nat.zero_add] at h1
  have hj1 : ¬ j = i + 1 := by
    intro hj
    subst hj
    by_cases hlt : i + 1 < (L.set i (some v)).length
    · rw [List.getElem?_set_self hlt] at h2; cases h2
    · rw [List.getElem?_eq_none (by rw [List.length_set]; omega)] at h2; cases h2
  rw [List.getElem?_set_ne (Ne.symm hj1)] at h2
  by_cases hj : j = i
  · subst hj
    have hlt : j < L.length := by
      have := (List.getElem?_eq_some_iff.mp h2).1
      simpa using this
    rw [List.getElem?_set_self hlt] at h2
    cases h2
    have : q = (j, qcv g v) := by cases q; simp_all
    rw [this]; exact List.mem_cons_self
  · rw [List.getElem?_set_ne (Ne.symm hj)] at h2
    refine List.mem_cons_of_mem _ (List.mem_filter.mpr ⟨?_, ?_⟩)
    · have h4 := qlc_get g L 0 j w h2
      rw [Nat.zero_add] at h4
      have : q = (j, qcv g w) := by cases q; simp_all
      rw [this]; exact h4
    · rw [h1, h3, qcat_cv]
      have e1 : (j == i) = false := by simp [hj]
      have e3 : (j == i + 1) = false := by simp [hj1]
      rw [e1, e3]
      by_cases hj2 : j + 1 = i
      · subst hj2
        simp only [qok1, h2] at hk
        have : qcat w = 1 := by simpa using hk
        simp [this]
      · simp [hj2]
theorem qv_dload (C : qC p l s m meth c cc nL own g) {i : Nat} {x : UInt64} (d : decode cc pc = .ok (.dload i, 2)) (hl : L[i]? = some (some (.inl (.double x)))) (k : qV p l e R s m args below meth c g nL Qf o cb sb (pc + 2) L (.inl (.double x) :: st) σ) : qV p l e R s m args below meth c g nL Qf o cb sb pc L st σ :=
  fun r hr ls H locs cells slots h1 h2 h3 h4 h5 => lv_dload C.1 C.2.1 d (h1.at hl) (k r hr ls H locs cells slots h1 h2 h3 h4 h5)
theorem qv_fload (C : qC p l s m meth c cc nL own g) {i : Nat} {x : UInt32} (d : decode cc pc = .ok (.fload i, 2)) (hl : L[i]? = some (some (.inl (.float x)))) (k : qV p l e R s m args below meth c g nL Qf o cb sb (pc + 2) L (.inl (.float x) :: st) σ) : qV p l e R s m args below meth c g nL Qf o cb sb pc L st σ :=
  fun r hr ls H locs cells slots h1 h2 h3 h4 h5 => lv_fload C.1 C.2.1 d (h1.at hl) (k r hr ls H locs cells slots h1 h2 h3 h4 h5)
theorem qv_fstore (C : qC p l s m meth c cc nL own g) {i : Nat} {x : UInt32} (d : decode cc pc = .ok (.fstore i, 2)) (hn : i < nL) (hk : qok1 L i = true) (k : qV p l e R s m args below meth c g nL Qf o cb sb (pc + 2) (L.set i (some (.inl (.float x)))) st σ) : qV p l e R s m args below meth c g nL Qf o cb sb pc L (.inl (.float x) :: st) σ :=
  fun r hr ls H locs cells slots h1 h2 h3 h4 h5 => lv_fstore C.1 C.2.1 d h1 hn rfl (fun ls' hl' => k r hr ls' H locs cells slots (qLs.store (v := .inl (.float x)) hk rfl hl') h2 h3 h4 h5)
theorem qv_dstore (C : qC p l s m meth c cc nL own g) {i : Nat} {x : UInt64} (d : decode cc pc = .ok (.dstore i, 2)) (hn : i + 1 < nL) (hk : qok1 L i = true) (k : qV p l e R s m args below meth c g nL Qf o cb sb (pc + 2) ((L.set i (some (.inl (.double x)))).set (i + 1) none) st σ) : qV p l e R s m args below meth c g nL Qf o cb sb pc L (.inl (.double x) :: st) σ :=
  fun r hr ls H locs cells slots h1 h2 h3 h4 h5 => lv_dstore C.1 C.2.1 d h1 hn rfl (fun ls' hl' => k r hr ls' H locs cells slots (qLs.store2 (v := .inl (.double x)) hk rfl hl') h2 h3 h4 h5)
end QL
