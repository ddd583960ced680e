/-! ordinal() of a command: its class is java/lang/Enum, of which the tables do not say that it has been initialised; the call asks none, so the callee's walk is laid directly -/
theorem zo_w1 : Cond.methodLink RX7 369 yCord ∈ qWA := qWA_in (List.mem_of_getElem? (i := 1229) (by decide +kernel)) rfl
theorem zo_w2 : Cond.sameMethod RX1 RJx29ce0 "ordinal" "()I" ∈ qWA := qWA_in (List.mem_of_getElem? (i := 1230) (by decide +kernel)) rfl
theorem zo_w4 : Cond.selects RX1 yCord yEord ∈ qWA := qWA_in (List.mem_of_getElem? (i := 1232) (by decide +kernel)) rfl
theorem zo_w5 : Cond.instanceMethod yEord ∈ qWA := qWA_in (List.mem_of_getElem? (i := 1233) (by decide +kernel)) rfl
theorem zo_w6 : Cond.code yEord prog_16_method_2_code 1 (some .int) ∈ qWA := qWA_in (List.mem_of_getElem? (i := 1234) (by decide +kernel)) rfl
theorem zo_weak {tb : Tables} {e : Env} {mid below : List Frame} {a b : State} (h : Steps tb e (mid ++ below) a b) : Steps tb e below a b := by
  obtain ⟨n, hn, w⟩ := h
  exact ⟨n, hn, fun k hk => (w k hk).weaken⟩
section ZO
variable {p : Program} {l : Launch} {e : Env} {R : Room} {s : State} {m : MethodId} {args : Array Value} {below : List Frame} {meth : Method} {c : Code}
/-- where a callee's walk stands at its entry, made out of its caller's -/
theorem zo_stand {U : State} {locs : List Loc} {cells slots : Nat} {R' : Room} {g : JFrame} {mk : MethodId} {a : Array Value} {methY : Method} {cY : Code} {ig : Instr} {len : Nat} (X : Stand p l e R s m args below meth c U locs cells slots) (hg : g.method = m) (hdg : decode c.code g.pc = .ok (ig, len)) (hmY : U.vm.method? mk = some methY) (hcY : methY.code = some cY) (hpl : U.plainMethod mk) (hroom : (U.calling g mk a).hasRoom e.platform R' = true) : Stand p l e R' (U.calling g mk a) mk a (.java g :: U.frames.tail) methY cY ((U.calling g mk a).setFrames (.java (entryFrame mk a cY.maxLocals) :: .java g :: U.frames.tail)) [] 0 0 := by
  subst hg
  have h := X.here
  have hf : (U.calling g mk a).frames = .invoking mk a :: .java g :: U.frames.tail := State.frames_calling h.top g mk a
  have hcur := State.cur_lt_of_frames hf
  have hf1 : ((U.calling g mk a).setFrames (.java (entryFrame mk a cY.maxLocals) :: .java g :: U.frames.tail)).frames = .java (entryFrame mk a cY.maxLocals) :: .java g :: U.frames.tail := State.frames_setFrames _ hcur
  have ht1 := State.topJava?_of_frames hf1
  have hcode : (U.calling g mk a).code? g.method = some c := by
    have := h.code
    rw [State.code?_eq] at this ⊢
    simpa [State.calling, State.pushFrame, State.setFrames] using this
  have hrun : (U.calling g mk a).status = .running := h.running
  have hable : (U.calling g mk a).curStatus? = some .runnable := by simpa [State.calling] using h.runnable
  have halone : (U.calling g mk a).alone = true := by simpa [State.calling] using h.alone
  obtain ⟨t, ht, -⟩ := State.frames_cons hf
  refine ⟨X.admits, X.cas, X.clock, hf, hroom, by simp [State.hears, hcode, hdg, Except.toOption], hmY, hcY, ⟨by rw [ht1]; rfl, ⟨[], by rw [hf1]; rfl⟩, hrun, by simpa using hable, by simpa using halone, ?_, hpl⟩, by rw [hf1]; rfl, State.WarmedH.refl _, by rw [State.stackLimits_setFrames], by rw [State.stackBytes_setFrames], (State.sameButNew.refl _ ht).setFrames _ hcur⟩
  rw [State.code?_eq]
  simp [State.setFrames, State.calling, State.pushFrame, hmY, hcY]
set_option maxHeartbeats 1000000 in
theorem zo_back {g0 : qG} {j : Nat} (hx : p.tables.exec = Jvm.exec) (hK : qKt g0 s) (hj : j < 8) (hR : 2 ≤ R.frames ∧ 100 ≤ R.locals) : Back l R p e below s args yEord 3 8 (fun A a => a = ([.ref (g0.2.2.1 40 j)] : List Value).toArray ∧ va_Ef 8 "java/lang/Enum" "ordinal" "I" (fun i => .int (nI i)) (g0.2.2.1 40) (qAf g0) s A.U.heap ∧ A.cells ≤ R.cells ∧ A.slots ≤ R.slots) (fun A a v B => v = some (.int (nI j)) ∧ B.U.heap = A.U.heap ∧ B.locs = A.locs ∧ B.cells = A.cells ∧ B.slots = A.slots) := by
  intro m meth c A g ig mk a X hg hsize hdg hW hn hp
  obtain ⟨U, Ls, c0, s0⟩ := A
  dsimp only [Pt.U, Pt.locs, Pt.cells, Pt.slots] at hp X hn ⊢
  obtain ⟨rfl, hO, hcc, hss⟩ := hp
  have hKU : qKt g0 U := hK.warm X.warmed
  obtain ⟨methY, cY, hmY, hcY, hbY, hlY, hrY, hlkY, -⟩ := Cond.code_spec hn (qword hKU zo_w6 (a := ([.ref (g0.2.2.1 40 j)] : List Value).toArray))
  have h : At U g.method c below := by rw [hg]; exact X.here
  have hplain : U.plainMethod mk := State.plainMethod.of_name (fun k hk => by
    obtain ⟨k', hk', hn'⟩ := className_of_methodNamed hn
    cases (show U.vm.classes[mk.cls]? = some k from hk).symm.trans hk'
    rw [hn']
    decide)
  have X2 := zo_stand (R' := { frames := 1, cells := 0, slots := 0, locals := 40 }) (a := ([.ref (g0.2.2.1 40 j)] : List Value).toArray) X hg hdg hmY hcY hplain (X.room_calling (g := g) hsize hmY hcY hR.1 (by rw [hlY]; show _ + (1 + 11) + 40 ≤ _; omega) hcc hss)
  have hK2 : qKt g0 (U.calling g mk ([.ref (g0.2.2.1 40 j)] : List Value).toArray) := qKt.same (u := U) rfl hKU
  have K : W p l e { frames := 1, cells := 0, slots := 0, locals := 40 } (U.calling g mk ([.ref (g0.2.2.1 40 j)] : List Value).toArray) mk ([.ref (g0.2.2.1 40 j)] : List Value).toArray (.java g :: U.frames.tail) methY cY U.heap [] 0 0 (MQ (.java g :: U.frames.tail) (fun _ _ o t => o = .returned (some (.int (nI j))) ∧ t.heap = U.heap) ([.ref (g0.2.2.1 40 j)] : List Value).toArray (U.calling g mk ([.ref (g0.2.2.1 40 j)] : List Value).toArray) 0 0 (fun _ => False)) (entryFrame mk ([.ref (g0.2.2.1 40 j)] : List Value).toArray 1) := by
    have hl := lv_entry ([.ref (g0.2.2.1 40 j)]) (n := 1) (Nat.le_of_ble_eq_true rfl)
    rw [lg_entry_eq]
    generalize (lg_sl ([.ref (g0.2.2.1 40 j)]) ++ List.replicate (1 - (lg_sl ([.ref (g0.2.2.1 40 j)])).length) Slot.unset).toArray = ls at hl ⊢
    refine lv_aload_n hx hbY dEord_0 rfl (lv_at hl 0 rfl) ?_
    obtain ⟨cf, kf, fi, f, cell, e1, e2, e3, e4, e5, e6⟩ := (va_Ef.moved (U := U.calling g mk ([.ref (g0.2.2.1 40 j)] : List Value).toArray) X.warmed.alike hO) j hj
    refine W.getf hx hbY (findClass_of_methodNamed (s := U.calling g mk ([.ref (g0.2.2.1 40 j)] : List Value).toArray) hn) (qword hK2 fs_eord) e1 e2 e3 e4 (v := .int (nI j)) e5 rfl rfl dEord_1 ?_
    exact W.iret hx hbY hrY (fun t ht _ => ⟨rfl, ht⟩) (fun q h => by cases h) dEord_4 hlkY
  obtain ⟨t, hsteps, o, hrun, hend, ⟨ho, hheap⟩, L, hfe, hL⟩ := K ((U.calling g mk ([.ref (g0.2.2.1 40 j)] : List Value).toArray).setFrames (.java (entryFrame mk ([.ref (g0.2.2.1 40 j)] : List Value).toArray cY.maxLocals) :: .java g :: U.frames.tail)) rfl X2
  subst ho
  obtain rfl : L = [] := by
    cases L with
    | nil => rfl
    | cons q r => exact (hL q List.mem_cons_self).elim
  generalize ha : ([.ref (g0.2.2.1 40 j)] : List Value).toArray = a at *
  obtain ⟨-, hW₂, e2, q2, q3, q4, q5, q6⟩ := id hfe
  have e3 : t = ({ (U.calling g mk a).setFrames t.frames with heap := t.heap, slotsUsed := t.slotsUsed } : State).setVm t.vm := by
    have h9 : t = ({ t with vm := (U.calling g mk a).vm } : State).setVm t.vm := rfl
    rw [e2] at h9
    exact h9
  obtain ⟨c₂, i₂, len₂, hc₂, hd₂, hf₂⟩ := hend
  have hW' : U.WarmedH t.vm := hW₂
  have hcq : c₂ = c := by
    have h1 : t.code? g.method = U.code? g.method := by
      rw [State.code?_eq, State.code?_eq, hW'.alike.method?]
    exact Option.some.inj (hc₂.symm.trans (h1.trans h.code))
  subst hcq
  have hlen : len₂ = 3 := by rw [hdg] at hd₂; cases hd₂; rfl
  subst hlen
  obtain ⟨g₀, hg0⟩ := Option.isSome_iff_exists.mp h.top
  obtain ⟨r, hr⟩ := State.topJava?_eq_some.mp hg0
  have hs₂ : t = (({ U with heap := t.heap, slotsUsed := t.slotsUsed } : State).setVm t.vm).setTop { g with pc := g.pc + 3, stack := [.int (nI j)] ++ g.stack } := by
    have hr' : (({ U with heap := t.heap, slotsUsed := t.slotsUsed } : State).setVm t.vm).frames = .java g₀ :: r := hr
    refine e3.trans ?_
    rw [hf₂, State.calling_eq h.top, State.setFrames_setFrames, State.setTop_of_frames _ hr', hr]
    rfl
  have hsame : U.sameButNew ({ U with heap := t.heap, slotsUsed := t.slotsUsed } : State) [] 0 0 := by
    refine ⟨?_, q2, q3, q4, q5, q6⟩
    obtain ⟨t9, ht9, -⟩ := State.frames_cons hr
    show ({ U with heap := t.heap, slotsUsed := t.slotsUsed } : State) = { U.setFrames U.frames with heap := t.heap, slotsUsed := t.slotsUsed }
    rw [State.setFrames_self ht9]
  have hent : (doInvoke e (U.setTop g) [] mk a).1 = ((U.calling g mk a).setFrames (.java (entryFrame mk a cY.maxLocals) :: .java g :: U.frames.tail)).setTop (entryFrame mk a 1) := by
    rw [doInvoke_enter (g := g) h.top [] hmY hcY hlkY (X.notFull (g := g) (vars := cY.maxLocals) hsize (by omega) (by rw [hlY]; omega))]
    have e9 : (U.setTop g).pushFrame (.java (entryFrame mk a cY.maxLocals)) = (U.calling g mk a).setFrames (.java (entryFrame mk a cY.maxLocals) :: .java g :: U.frames.tail) := by
      rw [State.calling_eq h.top, State.setFrames_setFrames, State.pushFrame, State.frames_setTop' g h.top, State.setTop_of_frames _ hr, State.setFrames_setFrames]
    rw [e9, hlY]
  have hsteps2 : Steps p.tables e below ((U.calling g mk a).setFrames (.java (entryFrame mk a cY.maxLocals) :: .java g :: U.frames.tail) |>.setTop (entryFrame mk a 1)) t := by
    refine zo_weak (mid := [.java g]) ?_
    rw [← X.tail]
    exact hsteps
  refine ⟨some (.int (nI j)), ⟨(({ U with heap := t.heap, slotsUsed := t.slotsUsed } : State).setVm t.vm), Ls, c0, s0⟩, ?_, ⟨rfl, hheap, rfl, rfl, rfl⟩, ?_⟩
  · have h8 := X.same.trans (hsame.setVm s.vm)
    rw [List.append_nil] at h8
    exact ⟨X.admits, X.cas, X.clock, X.frames, X.room, X.hears, X.method, X.code, (X.here.setHeapUsed t.heap t.slotsUsed).setVm hW'.alike, X.tail, State.WarmedH.trans X.warmed hW', X.limits, X.bytes, h8⟩
  · rw [hent]
    show Steps p.tables e below _ ((({ U with heap := t.heap, slotsUsed := t.slotsUsed } : State).setVm t.vm).setTop { g with pc := g.pc + 3, stack := [.int (nI j)] ++ g.stack })
    rw [← hs₂]
    exact hsteps2
end ZO
section ZO2
variable {p : Program} {l : Launch} {e : Env} {R : Room} {s : State} {m : MethodId} {args : Array Value} {below : List Frame} {meth : Method} {c : Code} {g : qG} {nL : Nat} {Qf : qO → State → Prop} {o : Option qO} {cb sb pc : Nat} {L : List (Option qA)} {st : List qA} {σ : qS} {cc : ByteArray} {own : String}
theorem qv_callOrd (C : qC p l s m meth c cc nL RX7 g) {j : Nat} (hj : j < 8) (hrest : (st.map qcat).sum ≤ 8) (hR : 12 ≤ R.frames ∧ 1100 ≤ R.locals) (d : decode cc pc = .ok (.invokevirtual 369, 3)) (k : qV p l e R s m args below meth c g nL Qf o cb sb (pc + 3) L (qI (nI j) :: st) σ) : qV p l e R s m args below meth c g nL Qf o cb sb pc L (qR 40 j :: st) σ := by
  intro r hr ls H locs cells slots h1 h2 h3 h4 h5 T hT X
  obtain ⟨hx0, hb, hml, hown, hE, -, -⟩ := C
  obtain ⟨hO, -, hF, -⟩ := hE.2.2
  obtain ⟨cell, c1, c2, c3, -⟩ := (hO j hj).kept h3.2.1
  obtain ⟨v, vm₁, B, hW1, X', ⟨rfl, b1, b2, b3, b4⟩, stp⟩ := va_callVU X hx0 (own := RX7) (C := RX1) (owner := RJx29ce0) (index := 369) (x := yCord) (y := yEord) (bytes := prog_16_method_2_code) (maxL := 1) (ret := some .int) hown (qword hE.1 zo_w1) (qword hE.1 zo_w2) (va_Decl.of (args := args) (qword hE.1 zo_w5) (qword hE.1 zo_w6)) (by decide) (qword hE.1 zo_w4) (qword hE.1 zo_w5) (qword hE.1 zo_w6) (zo_back (g0 := g) (j := j) hx0 hE.1 hj ⟨by omega, by omega⟩) (b := g.2.2.1 40 j) (cellB := cell) (by rw [hT]; exact c1) c2 c3 (g := F0 m pc ls ((qR 40 j :: st).map (qcv g))) rfl (h1.1.trans hml.symm) (argsL := []) (rest := st.map (qcv g)) (fun sig hs => by
      have h9 : parseMethodDescriptor "()I" = some sig := hs
      rw [show parseMethodDescriptor "()I" = some ⟨[], some .int⟩ by decide] at h9
      rw [← Option.some.inj h9]
      rfl) rfl (qroom hrest) (by rw [hb]; exact d) (fun vm hvm => ⟨rfl, by show va_Ef _ _ _ _ _ _ _ s T.heap; rw [hT]; exact hF.kept h3.2.1, by show cells ≤ R.cells; omega, by show slots ≤ R.slots; omega⟩)
  have b1' : B.U.heap = H := b1.trans hT
  have b2' : B.locs = locs := b2
  have b3' : B.cells = cells := b3
  have b4' : B.slots = slots := b4
  rw [b2', b3', b4'] at X'
  obtain ⟨t, a1, d1⟩ := k r hr ls H locs cells slots h1 h2 h3 h4 h5 B.U b1' X'
  exact ⟨t, stp t a1, d1⟩
end ZO2
