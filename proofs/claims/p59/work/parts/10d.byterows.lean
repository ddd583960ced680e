/-! rows of bytes, of numbers and of truths that are made on the way; of the constants -/
theorem qBy.env {g : qG} {σ : qS} {s : State} {H : Heap} {k j : Nat} (h : qBy g k j) (hc : k = 44 ∨ k = 46) (hE : qE g s s.heap) (h2 : qH g σ H) : ∃ f : Nat → Value, va_T .byte (g.2.2.1 k j) (qln (σ k j)) f (qAf g) s s.heap ∧ ∀ i, i < qln (σ k j) → f i = .int (σ k j i) := by
  rcases h with ⟨rfl, hj⟩ | ⟨rfl, hj⟩ | ⟨h, -⟩
  · obtain ⟨-, -, e3, e4⟩ := h2.2.2.1 j hj
    have hl : qsl j < 2 ^ 31 := by
      rcases (show j = 0 ∨ j = 1 ∨ j = 2 ∨ j = 3 ∨ j = 4 ∨ j = 5 ∨ j = 6 ∨ j = 7 by omega) with rfl | rfl | rfl | rfl | rfl | rfl | rfl | rfl <;> decide
    have e5 : qln (σ 44 j) = qsl j := by rw [qln, e3, nI_clamp hl]
    refine ⟨fun i => .int (qsc j i), ?_, fun i hi => ?_⟩
    · rw [e5]; exact (hE.2.2.1 j hj).2.2.2
    · rw [e5] at hi; rw [e4 i hi]
  · obtain ⟨e3, e4⟩ := h2.2.2.2 j hj
    have e5 : qln (σ 46 j) = 100 := by rw [qln, e3, nI_clamp (by decide)]
    refine ⟨fun i => .int (qdig j i), ?_, fun i hi => ?_⟩
    · rw [e5]; exact hE.2.2.2.1.2.2 j hj
    · rw [e5] at hi; rw [e4 i hi]
  · omega
theorem qBy.dyn {g : qG} {σ : qS} {k j : Nat} (h : qBy g k j) (hc : ¬ (k = 44 ∨ k = 46)) : ∃ q0 : Nat, (qcl ++ qX9 g)[q0]? = some (k, j) ∧ (qws g σ)[q0]? = some (g.2.2.1 k j, .inl (g.2.1 6, qln (σ k j), .inl (σ k j))) := by
  rcases h with ⟨rfl, hj⟩ | ⟨rfl, hj⟩ | ⟨h, hm⟩
  · omega
  · omega
  · obtain ⟨q0, hc0, hq⟩ := qws_in g σ (List.mem_append_right qcl hm)
    refine ⟨q0, hc0, ?_⟩
    rw [hq]
    rcases h with rfl | rfl | rfl <;> rw [qent11 rfl]
theorem qty6 (g : qG) : (qtys g)[6]? = some (g.2.1 6, .byte) := rfl
section QBY
variable {p : Program} {l : Launch} {e : Env} {R : Room} {s : State} {m : MethodId} {args : Array Value} {below : List Frame} {meth : Method} {c : Code} {g : qG} {nL : Nat} {Qf : qO → State → Prop} {o : Option qO} {cb sb pc : Nat} {L : List (Option qA)} {st : List qA} {σ : qS} {cc : ByteArray} {own : String}
theorem qv_ylen (C : qC p l s m meth c cc nL own g) {K j : Nat} (hB : qBy g K j) (d : decode cc pc = .ok (.arraylength, 1)) (k : qV p l e R s m args below meth c g nL Qf o cb sb (pc + 1) L (qI (Int32.ofNat (qln (σ K j))) :: st) σ) : qV p l e R s m args below meth c g nL Qf o cb sb pc L (qR K j :: st) σ := by
  intro r hr ls H locs cells slots h1 h2 h3 h4 h5
  obtain ⟨hx0, hb, hml, hown, hE, -, -⟩ := C
  have K1 := k r hr ls H locs cells slots h1 h2 h3 h4 h5
  by_cases hc : K = 44 ∨ K = 46
  · obtain ⟨f, hT, -⟩ := hB.env hc hE h2
    exact va_tlen hx0 hb hT h3 rfl d K1
  · obtain ⟨q0, -, hq⟩ := hB.dyn (σ := σ) hc
    exact va_alen hx0 hb hE.1.1 h2.1 q0 6 hq (qty6 g) rfl d K1
theorem qv_yald (C : qC p l s m meth c cc nL own g) {K j : Nat} {i : Int32} (hB : qBy g K j) (d : decode cc pc = .ok (.baload, 1)) (k : qin i (qln (σ K j)) → qV p l e R s m args below meth c g nL Qf o cb sb (pc + 1) L (qI (σ K j i.toNatClampNeg) :: st) σ) : qV p l e R s m args below meth c g nL Qf (if qin i (qln (σ K j)) then o else none) cb sb pc L (qI i :: qR K j :: st) σ := by
  by_cases h : qin i (qln (σ K j))
  · rw [if_pos h]
    intro r hr ls H locs cells slots h1 h2 h3 h4 h5
    obtain ⟨hx0, hb, hml, hown, hE, -, -⟩ := C
    have K1 := k h r hr ls H locs cells slots h1 h2 h3 h4 h5
    by_cases hc : K = 44 ∨ K = 46
    · obtain ⟨f, hT, hf⟩ := hB.env hc hE h2
      have hlt : i.toNatClampNeg < qln (σ K j) := by
        have := qin_vp h
        exact Nat.not_le.mp fun q => this (Or.inr q)
      exact va_tb hx0 hb hT h3 (qin_vp h) (hf _ hlt) d K1
    · obtain ⟨q0, -, hq⟩ := hB.dyn (σ := σ) hc
      exact va_bald hx0 hb hE.1.1 h2.1 q0 6 hq (qty6 g) (qin_vp h) d K1
  · rw [if_neg h]; exact qV.no
theorem qln_put {r : Nat → Int32} {i : Int32} {v : Int32} : qln (upd r i.toNatClampNeg v) = qln r := by
  have := qnn_lt i
  unfold qln
  rw [show upd r i.toNatClampNeg v qLI = r qLI from if_neg (by omega)]
theorem qv_yast (C : qC p l s m meth c cc nL own g) {K j : Nat} {i x : Int32} (hK : K = 61 ∨ K = 63 ∨ K = 66) (hm : (K, j) ∈ qX9 g) (d : decode cc pc = .ok (.bastore, 1)) (k : qin i (qln (σ K j)) → qV p l e R s m args below meth c g nL Qf o cb sb (pc + 1) L st (qu σ K j i.toNatClampNeg (vp_nar .byte x))) : qV p l e R s m args below meth c g nL Qf (if qin i (qln (σ K j)) then o else none) cb sb pc L (qI x :: qI i :: qR K j :: st) σ := by
  by_cases h : qin i (qln (σ K j))
  · rw [if_pos h]
    intro r hr ls H locs cells slots h1 h2 h3 h4 h5
    obtain ⟨hx0, hb, hml, hown, hE, -, -⟩ := C
    obtain ⟨q0, hc0, hq⟩ := qBy.dyn (σ := σ) (Or.inr (Or.inr ⟨hK, hm⟩)) (by omega)
    have hsh : qsh K = 11 := by rcases hK with rfl | rfl | rfl <;> rfl
    have hset := qws_set' (i := i.toNatClampNeg) (v := vp_nar .byte x) (e1 := .inl (g.2.1 6, qln (σ K j), .inl (upd (σ K j) i.toNatClampNeg (vp_nar .byte x)))) h2.2.1 hc0 hq (by rw [qent11 hsh, qln_put])
    exact va_bast hx0 hb hE.1.1 h2.1 h2.2.1 h3 q0 6 hq (qty6 g) (qin_vp h) d (fun H1 locs1 hP1 hD1 hS1 => k h r hr ls H1 locs1 cells slots h1 ⟨hset ▸ hP1, hset ▸ hD1, h2.2.2.qu (by omega)⟩ hS1 h4 h5)
  · rw [if_neg h]; exact qV.no
/-- numbers made on the way -/
theorem qty0 (g : qG) : (qtys g)[0]? = some (g.2.1 0, .int) := rfl
theorem qty4 (g : qG) : (qtys g)[4]? = some (g.2.1 4, .boolean) := rfl
theorem qty5 (g : qG) : (qtys g)[5]? = some (g.2.1 5, .array .int) := rfl
theorem qv_nlen (C : qC p l s m meth c cc nL own g) {j : Nat} (hm : (50, j) ∈ qX9 g) (d : decode cc pc = .ok (.arraylength, 1)) (k : qV p l e R s m args below meth c g nL Qf o cb sb (pc + 1) L (qI (Int32.ofNat (qln (σ 50 j))) :: st) σ) : qV p l e R s m args below meth c g nL Qf o cb sb pc L (qR 50 j :: st) σ := by
  intro r hr ls H locs cells slots h1 h2 h3 h4 h5
  obtain ⟨hx0, hb, hml, hown, hE, -, -⟩ := C
  obtain ⟨q0, -, hq⟩ := qws_in g σ (List.mem_append_right qcl hm)
  rw [qent7 rfl] at hq
  exact va_alen hx0 hb hE.1.1 h2.1 q0 0 hq (qty0 g) rfl d (k r hr ls H locs cells slots h1 h2 h3 h4 h5)
theorem qv_nald (C : qC p l s m meth c cc nL own g) {j : Nat} {i : Int32} (hm : (50, j) ∈ qX9 g) (d : decode cc pc = .ok (.iaload, 1)) (k : qin i (qln (σ 50 j)) → qV p l e R s m args below meth c g nL Qf o cb sb (pc + 1) L (qI (σ 50 j i.toNatClampNeg) :: st) σ) : qV p l e R s m args below meth c g nL Qf (if qin i (qln (σ 50 j)) then o else none) cb sb pc L (qI i :: qR 50 j :: st) σ := by
  by_cases h : qin i (qln (σ 50 j))
  · rw [if_pos h]
    intro r hr ls H locs cells slots h1 h2 h3 h4 h5
    obtain ⟨hx0, hb, hml, hown, hE, -, -⟩ := C
    obtain ⟨q0, -, hq⟩ := qws_in g σ (List.mem_append_right qcl hm)
    rw [qent7 rfl] at hq
    exact va_iald hx0 hb hE.1.1 h2.1 q0 0 hq (qty0 g) (qin_vp h) d (k h r hr ls H locs cells slots h1 h2 h3 h4 h5)
  · rw [if_neg h]; exact qV.no
theorem qv_nast (C : qC p l s m meth c cc nL own g) {j : Nat} {i x : Int32} (hm : (50, j) ∈ qX9 g) (d : decode cc pc = .ok (.iastore, 1)) (k : qin i (qln (σ 50 j)) → qV p l e R s m args below meth c g nL Qf o cb sb (pc + 1) L st (qu σ 50 j i.toNatClampNeg x)) : qV p l e R s m args below meth c g nL Qf (if qin i (qln (σ 50 j)) then o else none) cb sb pc L (qI x :: qI i :: qR 50 j :: st) σ := by
  by_cases h : qin i (qln (σ 50 j))
  · rw [if_pos h]
    intro r hr ls H locs cells slots h1 h2 h3 h4 h5
    obtain ⟨hx0, hb, hml, hown, hE, -, -⟩ := C
    obtain ⟨q0, hc0, hq⟩ := qws_in g σ (List.mem_append_right qcl hm)
    have hset := qws_set' (i := i.toNatClampNeg) (v := x) (e1 := .inl (g.2.1 0, qln (σ 50 j), .inl (upd (σ 50 j) i.toNatClampNeg x))) h2.2.1 hc0 hq (by rw [qent7 rfl, qln_put])
    rw [qent7 rfl] at hq
    exact va_iast hx0 hb hE.1.1 h2.1 h2.2.1 h3 q0 0 hq (qty0 g) (qin_vp h) d (fun H1 locs1 hP1 hD1 hS1 => k h r hr ls H1 locs1 cells slots h1 ⟨hset ▸ hP1, hset ▸ hD1, h2.2.2.qu (by omega)⟩ hS1 h4 h5)
  · rw [if_neg h]; exact qV.no
/-- truths made on the way -/
theorem qv_tlen (C : qC p l s m meth c cc nL own g) {j : Nat} (hm : (51, j) ∈ qX9 g) (d : decode cc pc = .ok (.arraylength, 1)) (k : qV p l e R s m args below meth c g nL Qf o cb sb (pc + 1) L (qI (Int32.ofNat (qln (σ 51 j))) :: st) σ) : qV p l e R s m args below meth c g nL Qf o cb sb pc L (qR 51 j :: st) σ := by
  intro r hr ls H locs cells slots h1 h2 h3 h4 h5
  obtain ⟨hx0, hb, hml, hown, hE, -, -⟩ := C
  obtain ⟨q0, -, hq⟩ := qws_in g σ (List.mem_append_right qcl hm)
  rw [qent8 rfl] at hq
  exact va_alen hx0 hb hE.1.1 h2.1 q0 4 hq (qty4 g) rfl d (k r hr ls H locs cells slots h1 h2 h3 h4 h5)
theorem qv_tald (C : qC p l s m meth c cc nL own g) {j : Nat} {i : Int32} (hm : (51, j) ∈ qX9 g) (d : decode cc pc = .ok (.baload, 1)) (k : qin i (qln (σ 51 j)) → qV p l e R s m args below meth c g nL Qf o cb sb (pc + 1) L (qI (σ 51 j i.toNatClampNeg) :: st) σ) : qV p l e R s m args below meth c g nL Qf (if qin i (qln (σ 51 j)) then o else none) cb sb pc L (qI i :: qR 51 j :: st) σ := by
  by_cases h : qin i (qln (σ 51 j))
  · rw [if_pos h]
    intro r hr ls H locs cells slots h1 h2 h3 h4 h5
    obtain ⟨hx0, hb, hml, hown, hE, -, -⟩ := C
    obtain ⟨q0, -, hq⟩ := qws_in g σ (List.mem_append_right qcl hm)
    rw [qent8 rfl] at hq
    exact va_zald hx0 hb hE.1.1 h2.1 q0 4 hq (qty4 g) (qin_vp h) d (k h r hr ls H locs cells slots h1 h2 h3 h4 h5)
  · rw [if_neg h]; exact qV.no
theorem qv_tast (C : qC p l s m meth c cc nL own g) {j : Nat} {i x : Int32} (hx : qbo x) (hm : (51, j) ∈ qX9 g) (d : decode cc pc = .ok (.bastore, 1)) (k : qin i (qln (σ 51 j)) → qV p l e R s m args below meth c g nL Qf o cb sb (pc + 1) L st (qu σ 51 j i.toNatClampNeg x)) : qV p l e R s m args below meth c g nL Qf (if qin i (qln (σ 51 j)) then o else none) cb sb pc L (qI x :: qI i :: qR 51 j :: st) σ := by
  by_cases h : qin i (qln (σ 51 j))
  · rw [if_pos h]
    intro r hr ls H locs cells slots h1 h2 h3 h4 h5
    obtain ⟨hx0, hb, hml, hown, hE, -, -⟩ := C
    obtain ⟨q0, hc0, hq⟩ := qws_in g σ (List.mem_append_right qcl hm)
    have hset := qws_set' (i := i.toNatClampNeg) (v := x) (e1 := .inl (g.2.1 4, qln (σ 51 j), .inl (upd (σ 51 j) i.toNatClampNeg x))) h2.2.1 hc0 hq (by rw [qent8 rfl, qln_put])
    rw [qent8 rfl] at hq
    have hz : vp_nar .boolean x = x := by simp [vp_nar, qbo_nar hx]
    exact va_zast hx0 hb hE.1.1 h2.1 h2.2.1 h3 q0 4 hq (qty4 g) (qin_vp h) d (fun H1 locs1 hP1 hD1 hS1 => by
      rw [hz] at hP1 hD1
      exact k h r hr ls H1 locs1 cells slots h1 ⟨hset ▸ hP1, hset ▸ hD1, h2.2.2.qu (by omega)⟩ hS1 h4 h5)
  · rw [if_neg h]; exact qV.no
/-- a row of rows -/
theorem qv_rald (C : qC p l s m meth c cc nL own g) {i : Int32} (hm : (52, 0) ∈ qX9 g) (d : decode cc pc = .ok (.aaload, 1)) (k : qin i 3 → qV p l e R s m args below meth c g nL Qf o cb sb (pc + 1) L (qR 50 (4 + i.toNatClampNeg) :: st) σ) : qV p l e R s m args below meth c g nL Qf (if qin i 3 then o else none) cb sb pc L (qI i :: qR 52 0 :: st) σ := by
  by_cases h : qin i 3
  · rw [if_pos h]
    intro r hr ls H locs cells slots h1 h2 h3 h4 h5
    obtain ⟨hx0, hb, hml, hown, hE, -, -⟩ := C
    obtain ⟨q0, -, hq⟩ := qws_in g σ (List.mem_append_right qcl hm)
    rw [qent9 rfl] at hq
    have hin := qin_vp h
    have hlt : i.toNatClampNeg < 3 := Nat.not_le.mp fun q => hin (Or.inr q)
    have K1 := k h r hr ls H locs cells slots h1 h2 h3 h4 h5
    refine W.aald (v := .ref (g.2.2.1 50 (4 + i.toNatClampNeg))) (ty := .array .int) hx0 hb (h2.1 q0 _ hq) ((hE.1.1.2 5 _ (qty5 g)).1 3 (fun j => va_rf (if j < 3 then some (g.2.2.1 50 (4 + j)) else none))) rfl (fun q => by cases q) (by show ¬ (i < 0 ∨ (arrV _ _ _).slots.size ≤ _); rw [arrV_size]; exact hin) ?_ rfl rfl d K1
    show (arrV _ _ _).slots[_]? = _
    rw [arrV_read _ _ hlt]
    show some (va_rf (if i.toNatClampNeg < 3 then some (g.2.2.1 50 (4 + i.toNatClampNeg)) else none)) = _
    rw [if_pos hlt]
    rfl
  · rw [if_neg h]; exact qV.no
theorem q3use {g : qG} {i : Int32} (h4 : (50, 4) ∈ qX9 g) (h5 : (50, 5) ∈ qX9 g) (h6 : (50, 6) ∈ qX9 g) (h : qin i 3) : (50, 4 + i.toNatClampNeg) ∈ qX9 g := by
  have hin := qin_vp h
  have hlt : i.toNatClampNeg < 3 := Nat.not_le.mp fun q => hin (Or.inr q)
  rcases (show i.toNatClampNeg = 0 ∨ i.toNatClampNeg = 1 ∨ i.toNatClampNeg = 2 by omega) with e | e | e <;> rw [e] <;> assumption
/-- the constants -/
theorem qv_gscs (C : qC p l s m meth c cc nL own g) {idx : Nat} (hw : Cond.fieldLink own idx RJ0 "COMPACT_STRINGS" "Z" ∈ qWA) (d : decode cc pc = .ok (.getstatic idx, 3)) (k : qV p l e R s m args below meth c g nL Qf o cb sb (pc + 3) L (qI (1 : Int32) :: st) σ) : qV p l e R s m args below meth c g nL Qf o cb sb pc L st σ := by
  intro r hr ls H locs cells slots h1 h2 h3 h4 h5
  obtain ⟨hx0, hb, hml, hown, hE, -, -⟩ := C
  exact va_gets hx0 hb hE.2.2.2.2.1.1 h3 hown (qword (a := args) hE.1 hw) (fun _ h => h) d (k r hr ls H locs cells slots h1 h2 h3 h4 h5)
theorem qv_gssi (C : qC p l s m meth c cc nL own g) {idx : Nat} (hw : Cond.fieldLink own idx RJ3 "SIOOBE_FORMATTER" "Ljava/util/function/BiFunction;" ∈ qWA) (d : decode cc pc = .ok (.getstatic idx, 3)) (k : ∀ v : Value, v.category = 1 → qV p l e R s m args below meth c g nL Qf o cb sb (pc + 3) L (.inl v :: st) σ) : qV p l e R s m args below meth c g nL Qf o cb sb pc L st σ := by
  intro r hr ls H locs cells slots h1 h2 h3 h4 h5
  obtain ⟨hx0, hb, hml, hown, hE, -, -⟩ := C
  have hZ := hE.2.2.2.2.1.2
  rcases hZ with hZ | ⟨t, hZ⟩
  · exact va_gets hx0 hb hZ h3 hown (qword (a := args) hE.1 hw) (fun _ h => h) d (k .null rfl r hr ls H locs cells slots h1 h2 h3 h4 h5)
  · exact va_gets hx0 hb hZ h3 hown (qword (a := args) hE.1 hw) (fun _ h => h) d (k (.ref t) rfl r hr ls H locs cells slots h1 h2 h3 h4 h5)
theorem qv_gsdo (C : qC p l s m meth c cc nL own g) {idx : Nat} (hw : Cond.fieldLink own idx RJ6 "DigitOnes" "[B" ∈ qWA) (d : decode cc pc = .ok (.getstatic idx, 3)) (k : qV p l e R s m args below meth c g nL Qf o cb sb (pc + 3) L (qR 46 0 :: st) σ) : qV p l e R s m args below meth c g nL Qf o cb sb pc L st σ := by
  intro r hr ls H locs cells slots h1 h2 h3 h4 h5
  obtain ⟨hx0, hb, hml, hown, hE, -, -⟩ := C
  exact va_gets hx0 hb hE.2.2.2.1.1 h3 hown (qword (a := args) hE.1 hw) (fun _ h => h) d (k r hr ls H locs cells slots h1 h2 h3 h4 h5)
theorem qv_gsdt (C : qC p l s m meth c cc nL own g) {idx : Nat} (hw : Cond.fieldLink own idx RJ6 "DigitTens" "[B" ∈ qWA) (d : decode cc pc = .ok (.getstatic idx, 3)) (k : qV p l e R s m args below meth c g nL Qf o cb sb (pc + 3) L (qR 46 1 :: st) σ) : qV p l e R s m args below meth c g nL Qf o cb sb pc L st σ := by
  intro r hr ls H locs cells slots h1 h2 h3 h4 h5
  obtain ⟨hx0, hb, hml, hown, hE, -, -⟩ := C
  exact va_gets hx0 hb hE.2.2.2.1.2.1 h3 hown (qword (a := args) hE.1 hw) (fun _ h => h) d (k r hr ls H locs cells slots h1 h2 h3 h4 h5)
theorem qv_ldcI (C : qC p l s m meth c cc nL own g) {idx : Nat} {v : Int32} (hw : Cond.constant own idx v ∈ qWA) (d : decode cc pc = .ok (.ldc idx, 2)) (k : qV p l e R s m args below meth c g nL Qf o cb sb (pc + 2) L (qI v :: st) σ) : qV p l e R s m args below meth c g nL Qf o cb sb pc L st σ := by
  intro r hr ls H locs cells slots h1 h2 h3 h4 h5
  obtain ⟨hx0, hb, hml, hown, hE, -, -⟩ := C
  exact lv_ldc hx0 hb hown (qword (a := args) hE.1 hw) d (k r hr ls H locs cells slots h1 h2 h3 h4 h5)
theorem qv_ldcwI (C : qC p l s m meth c cc nL own g) {idx : Nat} {v : Int32} (hw : Cond.constant own idx v ∈ qWA) (d : decode cc pc = .ok (.ldc_w idx, 3)) (k : qV p l e R s m args below meth c g nL Qf o cb sb (pc + 3) L (qI v :: st) σ) : qV p l e R s m args below meth c g nL Qf o cb sb pc L st σ := by
  intro r hr ls H locs cells slots h1 h2 h3 h4 h5
  obtain ⟨hx0, hb, hml, hown, hE, -, -⟩ := C
  exact lv_ldcw hx0 hb hown (qword (a := args) hE.1 hw) d (k r hr ls H locs cells slots h1 h2 h3 h4 h5)
/-- a text of the law's -/
theorem qv_ldcS (C : qC p l s m meth c cc nL RL g) {idx i : Nat} {tx : String} (hw : (idx, tx, i) ∈ qlst) (d : decode cc pc = .ok (.ldc idx, 2)) (k : qV p l e R s m args below meth c g nL Qf o cb sb (pc + 2) L (qR 42 i :: st) σ) : qV p l e R s m args below meth c g nL Qf o cb sb pc L st σ := by
  intro r hr ls H locs cells slots h1 h2 h3 h4 h5
  obtain ⟨hx0, hb, hml, hown, hE, -, -⟩ := C
  exact va_ldcS hx0 hb hown (hE.1.2.2.1 _ hw) d (k r hr ls H locs cells slots h1 h2 h3 h4 h5)
theorem qv_ldcSW (C : qC p l s m meth c cc nL RL g) {idx i : Nat} {tx : String} (hw : (idx, tx, i) ∈ qlst) (d : decode cc pc = .ok (.ldc_w idx, 3)) (k : qV p l e R s m args below meth c g nL Qf o cb sb (pc + 3) L (qR 42 i :: st) σ) : qV p l e R s m args below meth c g nL Qf o cb sb pc L st σ := by
  intro r hr ls H locs cells slots h1 h2 h3 h4 h5
  obtain ⟨hx0, hb, hml, hown, hE, -, -⟩ := C
  have hZ := hE.1.2.2.1 _ hw
  intro T hT X
  obtain ⟨t, a1, b1⟩ := k r hr ls H locs cells slots h1 h2 h3 h4 h5 T hT X
  exact ⟨t, X.ldcStringW hx0 hown (text := tx) (a := g.2.2.1 42 i) hZ.1 hZ.2 (g := F0 m pc ls (st.map (qcv g))) rfl (by rw [hb]; exact d) t a1, b1⟩
/-- the script -/
theorem qv_slen (C : qC p l s m meth c cc nL own g) (d : decode cc pc = .ok (.arraylength, 1)) (k : qV p l e R s m args below meth c g nL Qf o cb sb (pc + 1) L (qI (Int32.ofNat (qLL g)) :: st) σ) : qV p l e R s m args below meth c g nL Qf o cb sb pc L (qR 45 0 :: st) σ := by
  intro r hr ls H locs cells slots h1 h2 h3 h4 h5
  obtain ⟨hx0, hb, hml, hown, hE, -, -⟩ := C
  exact va_tlen hx0 hb hE.2.2.2.2.2.2 h3 rfl d (k r hr ls H locs cells slots h1 h2 h3 h4 h5)
theorem qv_sld (C : qC p l s m meth c cc nL own g) {i : Int32} (d : decode cc pc = .ok (.iaload, 1)) (k : qin i (qLL g) → qV p l e R s m args below meth c g nL Qf o cb sb (pc + 1) L (qI (qxs g i.toNatClampNeg) :: st) σ) : qV p l e R s m args below meth c g nL Qf (if qin i (qLL g) then o else none) cb sb pc L (qI i :: qR 45 0 :: st) σ := by
  by_cases h : qin i (qLL g)
  · rw [if_pos h]
    intro r hr ls H locs cells slots h1 h2 h3 h4 h5
    obtain ⟨hx0, hb, hml, hown, hE, -, -⟩ := C
    exact va_ti hx0 hb hE.2.2.2.2.2.2 h3 (qin_vp h) rfl d (k h r hr ls H locs cells slots h1 h2 h3 h4 h5)
  · rw [if_neg h]; exact qV.no
end QBY
