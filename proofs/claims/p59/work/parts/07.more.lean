/-! more rows: arrays, ends, contracts -/
section QA
variable {p : Program} {l : Launch} {e : Env} {R : Room} {s : State} {m : MethodId} {args : Array Value} {below : List Frame} {meth : Method} {c : Code} {g : qG} {nL : Nat} {Qf : qO → State → Prop} {o : Option qO} {cb sb pc : Nat} {L : List (Option qA)} {st : List qA} {σ : qS} {cc : ByteArray} {own : String}
/-- an index within n places -/
abbrev qin (i : Int32) (n : Nat) : Prop := 0 ≤ i.toInt ∧ i.toInt < (n : Int)
theorem qin_vp {i : Int32} {n : Nat} (h : qin i n) : vp_in i n := vp_in_iff.mpr h
theorem qv_alen (C : qC p l s m meth c cc nL own g) {kd j n : Nat} (hsh : qsh kd = 1 ∨ qsh kd = 2 ∨ qsh kd = 3 ∨ qsh kd = 4) (hn : qlen kd = n) (hkd : kd < 26) (hj : j < qn kd) (d : decode cc pc = .ok (.arraylength, 1)) (k : qV p l e R s m args below meth c g nL Qf o cb sb (pc + 1) L (qI (Int32.ofNat n) :: st) σ) : qV p l e R s m args below meth c g nL Qf o cb sb pc L (qR kd j :: st) σ := by
  intro r hr ls H locs cells slots h1 h2 h3 h4 h5
  obtain ⟨hx0, hb, hml, hown, hE, -, -⟩ := C
  obtain ⟨q0, -, hq⟩ := qws_at g σ hkd hj
  have K := k r hr ls H locs cells slots h1 h2 h3 h4 h5
  rcases hsh with h | h | h | h
  · rw [qent1 h] at hq
    exact va_alen hx0 hb hE.1.1 h2.1 q0 0 hq rfl (by rw [← hn]) d K
  · rw [qent2 h] at hq
    exact va_alen hx0 hb hE.1.1 h2.1 q0 1 hq rfl (by rw [← hn]) d K
  · rw [qent3 h] at hq
    exact va_alen hx0 hb hE.1.1 h2.1 q0 2 hq rfl (by rw [← hn]) d K
  · rw [qent4 h] at hq
    exact va_alen hx0 hb hE.1.1 h2.1 q0 3 hq rfl (by rw [← hn]) d K
theorem qv_iald! (C : qC p l s m meth c cc nL own g) {kd j : Nat} {i : Int32} (hsh : qsh kd = 1) (hkd : kd < 26) (hj : j < qn kd) (hin : qin i (qlen kd)) (d : decode cc pc = .ok (.iaload, 1)) (k : qV p l e R s m args below meth c g nL Qf o cb sb (pc + 1) L (qI (σ kd j i.toNatClampNeg) :: st) σ) : qV p l e R s m args below meth c g nL Qf o cb sb pc L (qI i :: qR kd j :: st) σ := by
  intro r hr ls H locs cells slots h1 h2 h3 h4 h5
  obtain ⟨hx0, hb, hml, hown, hE, -, -⟩ := C
  obtain ⟨q0, -, hq⟩ := qws_at g σ hkd hj
  rw [qent1 hsh] at hq
  exact va_iald hx0 hb hE.1.1 h2.1 q0 0 hq rfl (qin_vp hin) d (k r hr ls H locs cells slots h1 h2 h3 h4 h5)
theorem qv_iald (C : qC p l s m meth c cc nL own g) {kd j n : Nat} {i : Int32} (hn : qlen kd = n) (hsh : qsh kd = 1) (hkd : kd < 26) (hj : j < qn kd) (d : decode cc pc = .ok (.iaload, 1)) (k : qin i n → qV p l e R s m args below meth c g nL Qf o cb sb (pc + 1) L (qI (σ kd j i.toNatClampNeg) :: st) σ) : qV p l e R s m args below meth c g nL Qf (if qin i n then o else none) cb sb pc L (qI i :: qR kd j :: st) σ := by
  by_cases h : qin i n
  · rw [if_pos h]; exact qv_iald! C hsh hkd hj (hn ▸ h) d (k h)
  · rw [if_neg h]; exact qV.no
theorem qv_cald! (C : qC p l s m meth c cc nL own g) {kd j : Nat} {i : Int32} (hsh : qsh kd = 2) (hkd : kd < 26) (hj : j < qn kd) (hin : qin i (qlen kd)) (d : decode cc pc = .ok (.caload, 1)) (k : qV p l e R s m args below meth c g nL Qf o cb sb (pc + 1) L (qI (σ kd j i.toNatClampNeg) :: st) σ) : qV p l e R s m args below meth c g nL Qf o cb sb pc L (qI i :: qR kd j :: st) σ := by
  intro r hr ls H locs cells slots h1 h2 h3 h4 h5
  obtain ⟨hx0, hb, hml, hown, hE, -, -⟩ := C
  obtain ⟨q0, -, hq⟩ := qws_at g σ hkd hj
  rw [qent2 hsh] at hq
  exact va_cald hx0 hb hE.1.1 h2.1 q0 1 hq rfl (qin_vp hin) d (k r hr ls H locs cells slots h1 h2 h3 h4 h5)
theorem qv_cald (C : qC p l s m meth c cc nL own g) {kd j n : Nat} {i : Int32} (hn : qlen kd = n) (hsh : qsh kd = 2) (hkd : kd < 26) (hj : j < qn kd) (d : decode cc pc = .ok (.caload, 1)) (k : qin i n → qV p l e R s m args below meth c g nL Qf o cb sb (pc + 1) L (qI (σ kd j i.toNatClampNeg) :: st) σ) : qV p l e R s m args below meth c g nL Qf (if qin i n then o else none) cb sb pc L (qI i :: qR kd j :: st) σ := by
  by_cases h : qin i n
  · rw [if_pos h]; exact qv_cald! C hsh hkd hj (hn ▸ h) d (k h)
  · rw [if_neg h]; exact qV.no
theorem qv_iast! (C : qC p l s m meth c cc nL own g) {kd j : Nat} {i x : Int32} (hsh : qsh kd = 1) (hkd : kd < 26) (hj : j < qn kd) (hin : qin i (qlen kd)) (d : decode cc pc = .ok (.iastore, 1)) (k : qV p l e R s m args below meth c g nL Qf o cb sb (pc + 1) L st (qu σ kd j i.toNatClampNeg x)) : qV p l e R s m args below meth c g nL Qf o cb sb pc L (qI x :: qI i :: qR kd j :: st) σ := by
  intro r hr ls H locs cells slots h1 h2 h3 h4 h5
  obtain ⟨hx0, hb, hml, hown, hE, -, -⟩ := C
  obtain ⟨q0, hc0, hq⟩ := qws_at g σ hkd hj
  have hset := qws_set' (e1 := .inl (g.2.1 0, qlen kd, .inl (upd (σ kd j) i.toNatClampNeg x))) h2.2.1 hc0 hq (by rw [qent1 hsh])
  rw [qent1 hsh] at hq
  exact va_iast hx0 hb hE.1.1 h2.1 h2.2.1 h3 q0 0 hq rfl (qin_vp hin) d (fun H1 locs1 hP1 hD1 hS1 => k r hr ls H1 locs1 cells slots h1 ⟨hset ▸ hP1, hset ▸ hD1, h2.2.2.qu (by omega)⟩ hS1 h4 h5)
theorem qv_iast (C : qC p l s m meth c cc nL own g) {kd j n : Nat} {i x : Int32} (hn : qlen kd = n) (hsh : qsh kd = 1) (hkd : kd < 26) (hj : j < qn kd) (d : decode cc pc = .ok (.iastore, 1)) (k : qin i n → qV p l e R s m args below meth c g nL Qf o cb sb (pc + 1) L st (qu σ kd j i.toNatClampNeg x)) : qV p l e R s m args below meth c g nL Qf (if qin i n then o else none) cb sb pc L (qI x :: qI i :: qR kd j :: st) σ := by
  by_cases h : qin i n
  · rw [if_pos h]; exact qv_iast! C hsh hkd hj (hn ▸ h) d (k h)
  · rw [if_neg h]; exact qV.no
/-- a char; a boolean -/
abbrev qch (x : Int32) : Prop := 0 ≤ x ∧ x ≤ 65535
abbrev qbo (x : Int32) : Prop := x = 0 ∨ x = 1
theorem qch_fits {x : Int32} (h : qch x) : fits .char (.int x) = true := by simp [fits, h.1, h.2]
theorem qch_nar {x : Int32} (h : qch x) : narrow .char (.int x) = .int x := by
  obtain ⟨n, hn, rfl⟩ := nI_of2 (M := 65535) (n := 65535) (by decide) (by intro h2; exact absurd h.1 (by simpa using h2)) h.2
  exact (pk_charN (by omega)).1
theorem qbo_fits {x : Int32} (h : qbo x) : fits .boolean (.int x) = true := by rcases h with rfl | rfl <;> rfl
theorem qbo_nar {x : Int32} (h : qbo x) : narrow .boolean (.int x) = .int x := by rcases h with rfl | rfl <;> rfl
theorem qin_fits (x : Int32) : fits .int (.int x) = true := rfl
theorem qin_nar (x : Int32) : narrow .int (.int x) = .int x := rfl
theorem qv_cast (C : qC p l s m meth c cc nL own g) {kd j n : Nat} {i x : Int32} (hn : qlen kd = n) (hsh : qsh kd = 2) (hkd : kd < 26) (hj : j < qn kd) (d : decode cc pc = .ok (.castore, 1)) (k : qin i n → qch x → qV p l e R s m args below meth c g nL Qf o cb sb (pc + 1) L st (qu σ kd j i.toNatClampNeg x)) : qV p l e R s m args below meth c g nL Qf (if qin i n ∧ qch x then o else none) cb sb pc L (qI x :: qI i :: qR kd j :: st) σ := by
  by_cases h : qin i n ∧ qch x
  · rw [if_pos h]
    intro r hr ls H locs cells slots h1 h2 h3 h4 h5
    obtain ⟨hx0, hb, hml, hown, hE, -, -⟩ := C
    obtain ⟨q0, hc0, hq⟩ := qws_at g σ hkd hj
    have hset := qws_set' (e1 := .inl (g.2.1 1, qlen kd, .inl (upd (σ kd j) i.toNatClampNeg x))) h2.2.1 hc0 hq (by rw [qent2 hsh])
    rw [qent2 hsh] at hq
    have K := fun (H1 : Heap) (locs1 : List Loc) hP1 hD1 hS1 => k h.1 h.2 r hr ls H1 locs1 cells slots h1 ⟨hP1, hD1, h2.2.2.qu (by omega)⟩ hS1 h4 h5
    exact va_cast hx0 hb hE.1.1 h2.1 h2.2.1 h3 q0 1 hq rfl (qin_vp (hn ▸ h.1)) d (fun H1 locs1 hP1 hD1 hS1 => by
      have hz : vp_nar .char x = x := by simp [vp_nar, qch_nar h.2]
      rw [hz] at hP1 hD1
      exact K H1 locs1 (hset ▸ hP1) (hset ▸ hD1) hS1)
  · rw [if_neg h]; exact qV.no
/-- the states' row: the projects from the third on -/
theorem qv_aldS (C : qC p l s m meth c cc nL own g) {i : Int32} (d : decode cc pc = .ok (.aaload, 1)) (k : qin i 8 → qV p l e R s m args below meth c g nL Qf o cb sb (pc + 1) L (qR 1 (3 + i.toNatClampNeg) :: st) σ) : qV p l e R s m args below meth c g nL Qf (if qin i 8 then o else none) cb sb pc L (qI i :: qR 10 0 :: st) σ := by
  by_cases h : qin i 8
  · rw [if_pos h]
    intro r hr ls H locs cells slots h1 h2 h3 h4 h5
    obtain ⟨hx0, hb, hml, hown, hE, -, -⟩ := C
    obtain ⟨q0, hc0, hq⟩ := qws_at g σ (k := 10) (j := 0) (by decide) (by decide)
    rw [qent3 rfl] at hq
    exact va_aldq hx0 hb hE.1.1 h2.1 q0 2 hq rfl (qin_vp h) d (k h r hr ls H locs cells slots h1 h2 h3 h4 h5)
  · rw [if_neg h]; exact qV.no
theorem qv_null (C : qC p l s m meth c cc nL own g) (d : decode cc pc = .ok (.aconst_null, 1)) (k : qV p l e R s m args below meth c g nL Qf o cb sb (pc + 1) L (.inl .null :: st) σ) : qV p l e R s m args below meth c g nL Qf o cb sb pc L st σ :=
  fun r hr ls H locs cells slots h1 h2 h3 h4 h5 => lv_null C.1 C.2.1 d (k r hr ls H locs cells slots h1 h2 h3 h4 h5)
/-- the ends of a method -/
def qQ (g : qG) (r : qO) : Array Value → State → Outcome → State → Prop := fun _ st oc t => (∃ v : Option qA, r.1 = .inl v ∧ oc = .returned (v.map (qcv g)) ∧ qH g r.2 t.heap) ∧ va_F (qAf g) st t
def qX (g : qG) (r : qO) : String → State → State → Prop := fun E st t => (r.1 = .inr E ∧ qH g r.2 t.heap) ∧ va_F (qAf g) st t
def qPc (g : qG) (As : List qA) (σ : qS) : Array Value → State → Prop := va_Pc (As.map (qcv g)) (fun U => qE g U U.heap ∧ qH g σ U.heap)
abbrev qrm (d mc ms : Nat) : Room := { frames := d + 10, cells := mc, slots := ms, locals := 64 * d + 1000 }
/-- THE CONTRACT of a method at a call: whatever outcome o names, that is how it ends -/
def qM (g : qG) (l : Launch) (d mc ms : Nat) (w : Cond) (y : MethodName) (As : List qA) (σ : qS) (o : Option qO) : Prop := ∀ r : qO, o = some r → vx_Met l y [w] (qrm d mc ms) (qPc g As σ) (qQ g r) (qX g r) mc ms (qAf g)
def qQf (g : qG) (below : List Frame) (args : Array Value) (s : State) (R : Room) : qO → State → Prop := fun r => vx_MQ below (qQ g r) (qX g r) args s R.cells R.slots (qAf g)
theorem qret_q {t : State} {H : Heap} {locs : List Loc} {v : Option qA} (h2 : qH g σ H) (h3 : va_S (qAf g) s.heap H locs) (ht : t.heap = H) : qQ g (.inl v, σ) args s (.returned (v.map (qcv g))) t := ⟨⟨v, rfl, rfl, by rw [ht]; exact h2⟩, h3.F ht⟩
theorem qv_iret (C : qC p l s m meth c cc nL own g) (hr : meth.sig.returnType = some .int) {x : Int32} (d : decode cc pc = .ok (.ireturn, 1)) : qV p l e R s m args below meth c g nL (qQf g below args s R) (some (.inl (some (qI x)), σ)) cb sb pc L [qI x] σ := by
  intro r h0 ls H locs cells slots h1 h2 h3 h4 h5
  cases h0
  obtain ⟨hx0, hb, hml, hown, hE, -, hlk⟩ := C
  exact vx_ret (W.widen (by omega) (by omega) (W.iret hx0 hb hr (fun t ht hW => qret_q (v := some (qI x)) h2 h3 ht) h3.2.2 d hlk))
theorem qv_zret! (C : qC p l s m meth c cc nL own g) {ty : FieldType} (hr : meth.sig.returnType = some ty) {x : Int32} (hn : narrow ty (.int x) = .int x) (d : decode cc pc = .ok (.ireturn, 1)) : qV p l e R s m args below meth c g nL (qQf g below args s R) (some (.inl (some (qI x)), σ)) cb sb pc L [qI x] σ := by
  intro r h0 ls H locs cells slots h1 h2 h3 h4 h5
  cases h0
  obtain ⟨hx0, hb, hml, hown, hE, -, hlk⟩ := C
  exact vx_ret (W.widen (by omega) (by omega) (W.zret hx0 hb hr hn (fun t ht hW => qret_q (v := some (qI x)) h2 h3 ht) h3.2.2 d hlk))
theorem qv_bret (C : qC p l s m meth c cc nL own g) (hr : meth.sig.returnType = some .boolean) {x : Int32} (d : decode cc pc = .ok (.ireturn, 1)) : qV p l e R s m args below meth c g nL (qQf g below args s R) (if qbo x then some (.inl (some (qI x)), σ) else none) cb sb pc L [qI x] σ := by
  by_cases h : qbo x
  · rw [if_pos h]; exact qv_zret! C hr (qbo_nar h) d
  · rw [if_neg h]; exact qV.no
theorem qv_cret (C : qC p l s m meth c cc nL own g) (hr : meth.sig.returnType = some .char) {x : Int32} (d : decode cc pc = .ok (.ireturn, 1)) : qV p l e R s m args below meth c g nL (qQf g below args s R) (if qch x then some (.inl (some (qI x)), σ) else none) cb sb pc L [qI x] σ := by
  by_cases h : qch x
  · rw [if_pos h]; exact qv_zret! C hr (qch_nar h) d
  · rw [if_neg h]; exact qV.no
theorem qv_vret (C : qC p l s m meth c cc nL own g) (hr : meth.sig.returnType = none) (d : decode cc pc = .ok (.return_, 1)) : qV p l e R s m args below meth c g nL (qQf g below args s R) (some (.inl none, σ)) cb sb pc L [] σ := by
  intro r h0 ls H locs cells slots h1 h2 h3 h4 h5
  cases h0
  obtain ⟨hx0, hb, hml, hown, hE, -, hlk⟩ := C
  exact vx_ret (W.widen (by omega) (by omega) (W.vret hx0 hb hr (fun t ht hW => qret_q (v := none) h2 h3 ht) h3.2.2 d hlk))
theorem qv_aret (C : qC p l s m meth c cc nL own g) {nm : String} (hr : meth.sig.returnType = some (.object nm)) {v : qA} (hv : v = .inl .null ∨ ∃ a, v = .inr a) (d : decode cc pc = .ok (.areturn, 1)) : qV p l e R s m args below meth c g nL (qQf g below args s R) (some (.inl (some v), σ)) cb sb pc L [v] σ := by
  intro r h0 ls H locs cells slots h1 h2 h3 h4 h5
  cases h0
  obtain ⟨hx0, hb, hml, hown, hE, -, hlk⟩ := C
  refine vx_ret (W.widen (by omega) (by omega) (W.aret (v := qcv g v) hx0 hb hr (Or.inl ⟨_, rfl⟩) ?_ (fun t ht hW => qret_q (v := some v) h2 h3 ht) h3.2.2 d hlk))
  rcases hv with rfl | ⟨a, rfl⟩
  · exact Or.inl rfl
  · exact Or.inr ⟨_, rfl⟩
theorem qv_dret (C : qC p l s m meth c cc nL own g) (hr : meth.sig.returnType = some .double) {x : UInt64} (d : decode cc pc = .ok (.dreturn, 1)) : qV p l e R s m args below meth c g nL (qQf g below args s R) (some (.inl (some (.inl (.double x))), σ)) cb sb pc L [.inl (.double x)] σ := by
  intro r h0 ls H locs cells slots h1 h2 h3 h4 h5
  cases h0
  obtain ⟨hx0, hb, hml, hown, hE, -, hlk⟩ := C
  exact vx_ret (W.widen (by omega) (by omega) (W.dret hx0 hb hr (fun t ht hW => qret_q (v := some (.inl (.double x))) h2 h3 ht) h3.2.2 d hlk))
theorem qv_fret (C : qC p l s m meth c cc nL own g) (hr : meth.sig.returnType = some .float) {x : UInt32} (d : decode cc pc = .ok (.freturn, 1)) : qV p l e R s m args below meth c g nL (qQf g below args s R) (some (.inl (some (.inl (.float x))), σ)) cb sb pc L [.inl (.float x)] σ := by
  intro r h0 ls H locs cells slots h1 h2 h3 h4 h5
  cases h0
  obtain ⟨hx0, hb, hml, hown, hE, -, hlk⟩ := C
  exact vx_ret (W.widen (by omega) (by omega) (W.fret hx0 hb hr (fun t ht hW => qret_q (v := some (.inl (.float x))) h2 h3 ht) h3.2.2 d hlk))
/-- the locals with which a method begins -/
def qL0 (nL : Nat) (As : List qA) : List (Option qA) := As.map some ++ List.replicate (nL - As.length) none
theorem qlv_args (g : qG) : ∀ (As : List qA) (n i : Nat) (v : qA), (∀ a ∈ As, qcat a = 1) → As[i]? = some v → (n + i, qcv g v) ∈ lv_args n (As.map (qcv g))
  | [], _, _, _, _, h => by simp at h
  | a :: t, n, 0, v, _, h => by simp at h; subst h; simp [lv_args]
  | a :: t, n, i + 1, v, hc, h => by
    simp only [List.getElem?_cons_succ] at h
    have h1 := qlv_args g t (n + 1) i v (fun x hx => hc x (List.mem_cons_of_mem _ hx)) h
    have h2 : (qcv g a).category = 1 := by rw [qcat_cv]; exact hc a List.mem_cons_self
    simp only [List.map_cons, lv_args, h2, show ¬ (1 = 2) by decide, if_false]
    rw [show n + 1 + i = n + (i + 1) by omega] at h1
    exact List.mem_cons_of_mem _ h1
theorem qL0_get {nL : Nat} {As : List qA} {i : Nat} {v : qA} (h : (qL0 nL As)[i]? = some (some v)) : As[i]? = some v := by
  unfold qL0 at h
  by_cases hi : i < As.length
  · rw [List.getElem?_append_left (by simpa using hi)] at h
    simpa using h
  · rw [List.getElem?_append_right (by simpa using hi)] at h
    have := List.eq_of_mem_replicate (List.mem_of_getElem? h)
    cases this
theorem qlg_len (g : qG) : ∀ (As : List qA), (∀ a ∈ As, qcat a = 1) → (lg_sl (As.map (qcv g))).length = As.length
  | [], _ => rfl
  | a :: t, h => by
    have h2 : (qcv g a).category = 1 := by rw [qcat_cv]; exact h a List.mem_cons_self
    have h3 := qlg_len g t (fun x hx => h x (List.mem_cons_of_mem _ hx))
    simp only [lg_sl] at h3 ⊢
    simp [h2, h3]
theorem qM_of {d mc ms maxL : Nat} {cc : ByteArray} {y : MethodName} {ret : Option FieldType} {As : List qA} {o : Option qO} (hy : plainName y.cls = true) (hl : l.stackTraces = false) (hc : ∀ a ∈ As, qcat a = 1) (hlen : As.length ≤ maxL)
    (body : ∀ (p : Program) (e : Env) (s : State) (m : MethodId) (args : Array Value) (below : List Frame) (meth : Method) (c : Code), qC p l s m meth c cc maxL y.cls g → meth.sig.returnType = ret → (∀ x ∈ c.exceptionTable.toList, False) → qV p l e (qrm d mc ms) s m args below meth c g maxL (qQf g below args s (qrm d mc ms)) o mc ms 0 (qL0 maxL As) [] σ) :
    qM g l d mc ms (.code y cc maxL ret) y As σ o := by
  intro r hr
  refine vx_ofW (cc := cc) (maxL := maxL) (ret := ret) hy rfl ?_
  intro p e s m args below meth c s₁ B hml ht hv
  obtain ⟨rfl, hE, hH⟩ := hv
  have hC : qC p l s m meth c cc maxL y.cls g := ⟨B.exec, B.bytes, hml, findClass_of_methodNamed B.named, hE, hl, B.notSynchronized⟩
  have K := body p e s m (List.map (qcv g) As).toArray below meth c hC B.returns ht r hr
  rw [lg_entry_eq]
  refine K _ _ [] 0 0 ?_ hH va_S.rf (by simp) (by simp)
  have h0 := lv_entry (As.map (qcv g)) (n := maxL) (by rw [qlg_len g As hc]; exact hlen)
  refine ⟨h0.1, h0.2.1, fun q hq => ?_⟩
  obtain ⟨i, v, e1, e2, e3⟩ := qlc_mem g _ 0 q hq
  have h4 := qlv_args g As 0 i v hc (qL0_get e2)
  have h5 := h0.2.2 _ h4
  rw [e1, e3]
  exact h5
end QA
