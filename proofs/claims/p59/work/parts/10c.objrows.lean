/-! rows of builders and texts that are made on the way, of bytes -/
/-- a builder, a text: its kind, its bytes' kind, its class's place -/
def qob (K KB ci : Nat) : Prop := (K = 60 ∧ KB = 61 ∧ ci = 6) ∨ (K = 62 ∧ KB = 63 ∧ ci = 7)
theorem qob_ent {K KB ci : Nat} (h : qob K KB ci) (g : qG) (j : Nat) (r : Nat → Int32) : qent g K j r = .inr (ci, [qnr (r 5) (g.2.2.1 KB j), .int (r 1), .int (r 2), .int (r 3)]) := by
  rcases h with ⟨rfl, rfl, rfl⟩ | ⟨rfl, rfl, rfl⟩
  · exact qent10 rfl
  · exact qent12 rfl
/-- a class of the JDK, as the tables lay it -/
def qClj (ci : Nat) (C : String) (T : u_T) : Prop := qcls[ci]? = some (C, T, 4) ∧ (∀ w ∈ u_ws C T 4, w ∈ qWA) ∧ (∀ a, a < 4 → ∀ b, b < 4 → a ≠ b → (T a).2.1 ≠ (T b).2.1) ∧ ∃ ty : Nat → FieldType, (∀ k, k < 4 → parseFieldDescriptor (T k).2.2.1 = some (ty k)) ∧ ∀ j, j < 4 → defaultValue (ty j) = vp_V [.null, .int 0, .int 0, .int 0] j
section QOB
variable {p : Program} {l : Launch} {e : Env} {R : Room} {s : State} {m : MethodId} {args : Array Value} {below : List Frame} {meth : Method} {c : Code} {g : qG} {nL : Nat} {Qf : qO → State → Prop} {o : Option qO} {cb sb pc : Nat} {L : List (Option qA)} {st : List qA} {σ : qS} {cc : ByteArray} {own : String}
/-- a new object that is a builder or a text -/
theorem qv_newo (C : qC p l s m meth c cc nL own g) {K KB j ci idx : Nat} {C0 : String} {T : u_T} (ho : qob K KB ci) (hCl : qClj ci C0 T) (hw : Cond.classLink own idx C0 ∈ qWA ∧ Cond.instantiable C0 4 ∈ qWA ∧ Cond.initialized C0 ∈ qWA) (hL : qfL [(K, j)] L) (hS : qfS [(K, j)] st) (d : decode cc pc = .ok (.new idx, 3))
    (k : ∀ g1 : qG, qC p l s m meth c cc nL own g1 → qEv [(K, j)] g g1 → (K, j) ∈ qX9 g1 → qV p l e R s m args below meth c g1 nL Qf o cb sb (pc + 3) L (qR K j :: st) (qrw σ K j (fun _ => 0))) : qV p l e R s m args below meth c g nL Qf o (cb + 1) (sb + 4) pc L st σ := by
  intro r hr ls H locs cells slots h1 h2 h3 h4 h5
  have hK : 50 ≤ K := by rcases ho with ⟨h, -, -⟩ | ⟨h, -, -⟩ <;> omega
  have hdep : ¬ K = 61 ∧ ¬ K = 63 ∧ ¬ (K = 50 ∧ 4 ≤ j ∧ j ≤ 6) := by rcases ho with ⟨h, -, -⟩ | ⟨h, -, -⟩ <;> omega
  obtain ⟨hcl, hin, hnm, ty, hty, hdf⟩ := hCl
  refine va_new C.1 C.2.1 (qwords (a := args) C.2.2.2.2.1.1) hin ty hty C.2.2.2.1 (qword C.2.2.2.2.1.1 hw.1) (qword C.2.2.2.2.1.1 hw.2.1) (qword C.2.2.2.2.1.1 hw.2.2) C.2.2.2.2.1.1.1 h2.1 h2.2.1 h3 (qAf_new C) hcl hdf (by omega) (by omega) d (fun q H1 hP1 hD1 hS1 => ?_)
  have hat := hP1 (qws g σ).length (q, .inr (ci, [.null, .int 0, .int 0, .int 0])) (by simp)
  have hold : ∀ (i : Nat) (y : Nat × va_E), (qws g σ)[i]? = some y → va_at g.1 qcls y H1 ∧ y.1 ≠ q := by
    intro i y hy
    have hil : i < (qws g σ).length := (List.getElem?_eq_some_iff.mp hy).1
    refine ⟨hP1 i y (by rw [List.getElem?_append_left hil]; exact hy), fun he => ?_⟩
    have := hD1.1 i (qws g σ).length y (q, .inr (ci, [.null, .int 0, .int 0, .int 0])) (by rw [List.getElem?_append_left hil]; exact hy) (by simp) he
    omega
  have hq : qAf g q := hD1.2 (qws g σ).length (q, .inr (ci, [.null, .int 0, .int 0, .int 0])) (by simp)
  have hH : qH (qbd g K j q) (qrw σ K j (fun _ => 0)) H1 := by
    refine qH_bindW h2 hK hdep (fun i y hy => (hold i y hy).1) (fun i y hy => (hold i y hy).2) hq ?_
    rw [qob_ent ho]
    exact hat
  have E := qbd_ev (g := g) (j := j) (a := q) hK
  have K1 := k (qbd g K j q) (E.C C) E qbd_in r hr ls H1 locs (cells + 1) (slots + 4) (E.Ls hL h1) hH (by rw [E.Af]; exact hS1) (by omega) (by omega)
  rw [List.map_cons, E.map hS] at K1
  have eq1 : qcv (qbd g K j q) (qR K j) = Value.ref q := congrArg Value.ref (if_pos ⟨rfl, rfl⟩)
  rw [eq1] at K1
  exact K1
/-- a number's field of it -/
theorem qv_geto (C : qC p l s m meth c cc nL own g) {K KB j ci idx f fi : Nat} {C0 : String} {T : u_T} (ho : qob K KB ci) (hCl : qClj ci C0 T) (hF : qFl own idx C0 T fi) (hm : (K, j) ∈ qX9 g) (hf : fi = f ∧ (f = 1 ∨ f = 2 ∨ f = 3)) (d : decode cc pc = .ok (.getfield idx, 3)) (k : qV p l e R s m args below meth c g nL Qf o cb sb (pc + 3) L (qI (σ K j f) :: st) σ) : qV p l e R s m args below meth c g nL Qf o cb sb pc L (qR K j :: st) σ := by
  intro r hr ls H locs cells slots h1 h2 h3 h4 h5
  obtain ⟨hx0, hb, hml, hown, hE, -, -⟩ := C
  obtain ⟨q0, -, hq⟩ := qws_in g σ (List.mem_append_right qcl hm)
  rw [qob_ent ho] at hq
  obtain ⟨hcl, hin, -⟩ := hCl
  obtain ⟨rfl, hf⟩ := hf
  have hv : ([qnr (σ K j 5) (g.2.2.1 KB j), .int (σ K j 1), .int (σ K j 2), .int (σ K j 3)] : List Value)[fi]? = some (.int (σ K j fi)) := by rcases hf with rfl | rfl | rfl <;> rfl
  have h4' : fi < 4 := by omega
  have K1 := k r hr ls H locs cells slots h1 h2 h3 h4 h5
  rcases hF with hF | ⟨host, hF⟩
  · exact va_get hx0 hb (qwords (a := args) hE.1) hin hown hE.1.1 h2.1 q0 hq hcl fi h4' (qword hE.1 hF) (fun _ h => h) hv d K1
  · exact va_getN hx0 hb (qwords (a := args) hE.1) hin hown hE.1.1 h2.1 q0 hq hcl fi h4' (qword hE.1 hF) (fun _ h => h) hv d K1
/-- its bytes -/
theorem qv_getv (C : qC p l s m meth c cc nL own g) {K KB j ci idx : Nat} {C0 : String} {T : u_T} (ho : qob K KB ci) (hCl : qClj ci C0 T) (hF : qFl own idx C0 T 0) (hm : (K, j) ∈ qX9 g) (d : decode cc pc = .ok (.getfield idx, 3)) (k : ¬ σ K j 5 = 0 → qV p l e R s m args below meth c g nL Qf o cb sb (pc + 3) L (qR KB j :: st) σ) : qV p l e R s m args below meth c g nL Qf (if σ K j 5 = 0 then none else o) cb sb pc L (qR K j :: st) σ := by
  by_cases h0 : σ K j 5 = 0
  · rw [if_pos h0]; exact qV.no
  · rw [if_neg h0]
    intro r hr ls H locs cells slots h1 h2 h3 h4 h5
    obtain ⟨hx0, hb, hml, hown, hE, -, -⟩ := C
    obtain ⟨q0, -, hq⟩ := qws_in g σ (List.mem_append_right qcl hm)
    rw [qob_ent ho] at hq
    obtain ⟨hcl, hin, -⟩ := hCl
    have hv : ([qnr (σ K j 5) (g.2.2.1 KB j), .int (σ K j 1), .int (σ K j 2), .int (σ K j 3)] : List Value)[0]? = some (.ref (g.2.2.1 KB j)) := by
      show some (qnr _ _) = _
      rw [qnr, if_neg h0]
    have K1 := k h0 r hr ls H locs cells slots h1 h2 h3 h4 h5
    rcases hF with hF | ⟨host, hF⟩
    · exact va_get hx0 hb (qwords (a := args) hE.1) hin hown hE.1.1 h2.1 q0 hq hcl 0 (by decide) (qword hE.1 hF) (fun _ h => h) hv d K1
    · exact va_getN hx0 hb (qwords (a := args) hE.1) hin hown hE.1.1 h2.1 q0 hq hcl 0 (by decide) (qword hE.1 hF) (fun _ h => h) hv d K1
/-- a number's field is written; fin: a final one, in its constructor -/
theorem qv_puto (C : qC p l s m meth c cc nL own g) {K KB j ci idx f : Nat} {C0 : String} {T : u_T} {x : Int32} {ty : FieldType} (ho : qob K KB ci) (hCl : qClj ci C0 T) (hF : Cond.fieldLink own idx (T f).1 (T f).2.1 (T f).2.2.1 ∈ qWA) (hm : (K, j) ∈ qX9 g) (hf : f = 1 ∨ f = 2 ∨ f = 3) (hfin : (T f).2.2.2 = false ∨ ((T f).2.2.2 = true ∧ meth.name = "<init>" ∧ (T f).1 = own)) (hty : parseFieldDescriptor (T f).2.2.1 = some ty) (hn : narrow ty (.int x) = .int x) (hfit : fits ty (.int x) = true) (d : decode cc pc = .ok (.putfield idx, 3)) (k : qV p l e R s m args below meth c g nL Qf o cb sb (pc + 3) L st (qu σ K j f x)) : qV p l e R s m args below meth c g nL Qf o cb sb pc L (qI x :: qR K j :: st) σ := by
  intro r hr ls H locs cells slots h1 h2 h3 h4 h5
  have hK : ¬ (K = 42 ∨ K = 44 ∨ K = 46) := by rcases ho with ⟨h, -, -⟩ | ⟨h, -, -⟩ <;> omega
  obtain ⟨hx0, hb, hml, hown, hE, -, -⟩ := C
  obtain ⟨q0, hc0, hq⟩ := qws_in g σ (List.mem_append_right qcl hm)
  obtain ⟨hcl, hin, hnm, ty0, hty0, -⟩ := hCl
  have he : (.inr (ci, ([qnr (σ K j 5) (g.2.2.1 KB j), .int (σ K j 1), .int (σ K j 2), .int (σ K j 3)] : List Value).set f (.int x)) : va_E) = qent g K j (upd (σ K j) f x) := by
    rw [qob_ent ho]
    rcases hf with rfl | rfl | rfl <;> rfl
  have hset := qws_set' h2.2.1 hc0 hq he
  rw [qob_ent ho] at hq
  have hl : f < ([qnr (σ K j 5) (g.2.2.1 KB j), .int (σ K j 1), .int (σ K j 2), .int (σ K j 3)] : List Value).length := by show f < 4; omega
  have h4' : f < 4 := by omega
  have K1 := fun (H1 : Heap) (locs1 : List Loc) hP1 hD1 hS1 => k r hr ls H1 locs1 cells slots h1 ⟨hP1, hD1, h2.2.2.qu hK⟩ hS1 h4 h5
  rcases hfin with hfin | ⟨hfin, hin2, hdecl⟩
  · exact va_put hx0 hb (qwords (a := args) hE.1) hin ty0 hty0 hnm hown hE.1.1 h2.1 h2.2.1 h3 q0 hq hcl f h4' (qword hE.1 hF) (fun _ h => h) hfin hty hn hfit hl d (fun H1 locs1 hP1 hD1 hS1 => K1 H1 locs1 (hset ▸ hP1) (hset ▸ hD1) hS1)
  · exact va_putF hx0 hb (qwords (a := args) hE.1) hin ty0 hty0 hnm hown hE.1.1 h2.1 h2.2.1 h3 q0 hq hcl f h4' (qword hE.1 hF) (fun _ h => h) hfin hin2 hdecl hty hn hfit hl d (fun H1 locs1 hP1 hD1 hS1 => K1 H1 locs1 (hset ▸ hP1) (hset ▸ hD1) hS1)
end QOB
/-- the row at hand becomes an object's bytes -/
def qmv (g : qG) (KB j : Nat) : qG := (g.1, g.2.1, fun x y => if x = KB ∧ y = j then g.2.2.1 66 0 else g.2.2.1 x y, g.2.2.2.1, (qX9 g).filter (fun q => decide (q ≠ (KB, j)) && decide (q ≠ (66, 0))) ++ [(KB, j)], g.2.2.2.2.2)
theorem qmv_ev {g : qG} {KB j : Nat} (hK : 50 ≤ KB) : qEv [(KB, j), (66, 0)] g (qmv g KB j) := by
  refine ⟨rfl, rfl, rfl, rfl, fun x y hx => ?_, fun x y hd => ?_, fun x y hd hx => ?_⟩
  · show (if x = KB ∧ y = j then _ else _) = _
    rw [if_neg (by omega)]
  · show (if x = KB ∧ y = j then _ else _) = _
    rw [if_neg hd.1]
  · refine List.mem_append_left _ (List.mem_filter.mpr ⟨hx, ?_⟩)
    have e1 : (x, y) ≠ (KB, j) := fun e => hd.1 ⟨congrArg Prod.fst e, congrArg Prod.snd e⟩
    have e2 : (x, y) ≠ (66, 0) := fun e => hd.2.1 ⟨congrArg Prod.fst e, congrArg Prod.snd e⟩
    simp [e1, e2]
theorem qmv_in {g : qG} {KB j : Nat} : (KB, j) ∈ qX9 (qmv g KB j) := List.mem_append_right _ List.mem_cons_self
theorem qH_mv {g : qG} {σ : qS} {H H1 : Heap} {K KB ci j q0 : Nat} (ho : qob K KB ci) (h : qH g σ H) (hm : (K, j) ∈ qX9 g) (hm2 : (66, 0) ∈ qX9 g) (hc0 : (qcl ++ qX9 g)[q0]? = some (K, j))
    (hP1 : va_P g.1 qcls ((qws g σ).set q0 (g.2.2.1 K j, .inr (ci, [.ref (g.2.2.1 66 0), .int (σ K j 1), .int (σ K j 2), .int (σ K j 3)]))) H1) : qH (qmv g KB j) (qrw (qu σ K j 5 1) KB j (σ 66 0)) H1 := by
  have hK : K = 60 ∧ KB = 61 ∨ K = 62 ∧ KB = 63 := by rcases ho with ⟨h, h2, -⟩ | ⟨h, h2, -⟩ <;> omega
  obtain ⟨h1, h2, h3, h4⟩ := qHp.of h
  have E := qmv_ev (g := g) (KB := KB) (j := j) (by omega)
  have hsp : qcl ++ qX9 (qmv g KB j) = (qcl ++ (qX9 g).filter (fun q => decide (q ≠ (KB, j)) && decide (q ≠ (66, 0)))) ++ [(KB, j)] := by
    rw [List.append_assoc]; rfl
  have hx : ∀ q ∈ qcl ++ (qX9 g).filter (fun q => decide (q ≠ (KB, j)) && decide (q ≠ (66, 0))), q ∈ qcl ++ qX9 g ∧ q ≠ (KB, j) ∧ q ≠ (66, 0) := by
    intro q hq
    rcases List.mem_append.mp hq with hq | hq
    · have := qcl_lo hq
      exact ⟨List.mem_append_left _ hq, fun e => by rw [e] at this; omega, fun e => by rw [e] at this; omega⟩
    · obtain ⟨hq, e⟩ := List.mem_filter.mp hq
      simp only [ne_eq, Bool.and_eq_true, decide_eq_true_eq] at e
      exact ⟨List.mem_append_right _ hq, e.1, e.2⟩
  have had : ∀ q : Nat × Nat, q ≠ (KB, j) → (qmv g KB j).2.2.1 q.1 q.2 = g.2.2.1 q.1 q.2 := fun q hq => if_neg (fun e => hq (Prod.ext e.1 e.2))
  have haa : (qmv g KB j).2.2.1 KB j = g.2.2.1 66 0 := if_pos ⟨rfl, rfl⟩
  have hmT : (66, 0) ∈ qcl ++ qX9 g := List.mem_append_right _ hm2
  have hidx : ∀ q ∈ qcl ++ qX9 g, q ≠ (K, j) → ∀ e : va_E, e = qent g q.1 q.2 (σ q.1 q.2) → va_at g.1 qcls (g.2.2.1 q.1 q.2, e) H1 := by
    intro q hq hne e he
    subst he
    obtain ⟨i, hi⟩ := List.getElem?_of_mem hq
    have hin : i ≠ q0 := fun e => by
      subst e
      exact hne (Option.some.inj (hi.symm.trans hc0))
    exact hP1 i _ (by rw [List.getElem?_set_ne (Ne.symm hin)]; exact qws_get hi)
  have hself : va_at g.1 qcls (g.2.2.1 K j, .inr (ci, [.ref (g.2.2.1 66 0), .int (σ K j 1), .int (σ K j 2), .int (σ K j 3)])) H1 := by
    refine hP1 q0 _ ?_
    rw [List.getElem?_set_self]
    have := (List.getElem?_eq_some_iff.mp (qws_get (σ := σ) hc0)).1
    exact this
  refine qHp.to ⟨fun q hq => ?_, fun q hq q' hq' e => ?_, fun q hq => ?_, ?_⟩ (h.2.2.put (fun a b ha => ?_))
  · rw [hsp] at hq
    rcases List.mem_append.mp hq with hq | hq
    · obtain ⟨hmq, hne, hne2⟩ := hx q hq
      rw [had q hne]
      by_cases hk : q = (K, j)
      · subst hk
        rw [qrw_ne _ _ (by omega), qob_ent ho, haa]
        have e5 : qu σ K j 5 1 K j = upd (σ K j) 5 1 := qu_row σ K j 5 1
        rw [e5]
        exact hself
      · have hk' : ¬ (q.1 = K ∧ q.2 = j) := fun e => hk (Prod.ext e.1 e.2)
        rw [qrw_ne _ _ (fun e => hne (Prod.ext e.1 e.2)), qu_other σ hk', qent_ev E (fun x hx2 => ?_)]
        · exact hidx q hmq hk _ rfl
        · unfold qdep at hx2
          split at hx2
          · simp only [List.mem_cons, List.not_mem_nil, or_false] at hx2
            rcases hx2 with hx2 | hx2 | hx2 <;> (rw [hx2]; exact qnd_c (by omega) (qnd_c (by omega) qnd_n))
          · split at hx2
            · simp only [List.mem_cons, List.not_mem_nil, or_false] at hx2
              rw [hx2]; exact qnd_c (by omega) (qnd_c (by omega) qnd_n)
            · split at hx2
              · simp only [List.mem_cons, List.not_mem_nil, or_false] at hx2
                rw [hx2]; exact qnd_c (by omega) (qnd_c (by omega) qnd_n)
              · cases hx2
    · rw [List.mem_singleton.mp hq]
      show va_at g.1 qcls ((qmv g KB j).2.2.1 KB j, qent (qmv g KB j) KB j (qrw (qu σ K j 5 1) KB j (σ 66 0) KB j)) H1
      rw [haa, qrw_at]
      refine hidx (66, 0) hmT (fun e => by have := congrArg Prod.fst e; simp at this; omega) _ ?_
      show qent (qmv g KB j) KB j (σ 66 0) = qent g 66 0 (σ 66 0)
      rw [qent11 (k := 66) rfl]
      rcases hK with ⟨-, rfl⟩ | ⟨-, rfl⟩ <;> exact qent11 rfl
  · have key : ∀ q ∈ qcl ++ qX9 (qmv g KB j), (q = (KB, j) ∧ (qmv g KB j).2.2.1 q.1 q.2 = g.2.2.1 66 0) ∨ (q ∈ qcl ++ qX9 g ∧ q ≠ (66, 0) ∧ (qmv g KB j).2.2.1 q.1 q.2 = g.2.2.1 q.1 q.2) := by
      intro q hq
      rw [hsp] at hq
      rcases List.mem_append.mp hq with hq | hq
      · obtain ⟨hmq, hne, hne2⟩ := hx q hq
        exact Or.inr ⟨hmq, hne2, had q hne⟩
      · rw [List.mem_singleton.mp hq]
        exact Or.inl ⟨rfl, haa⟩
    rcases key q hq with ⟨a1, a2⟩ | ⟨a1, a2, a3⟩ <;> rcases key q' hq' with ⟨b1, b2⟩ | ⟨b1, b2, b3⟩
    · exact a1.trans b1.symm
    · rw [a2, b3] at e
      exact absurd (h2 (66, 0) hmT q' b1 e).symm b2
    · rw [a3, b2] at e
      exact absurd (h2 q a1 (66, 0) hmT e) a2
    · rw [a3, b3] at e
      exact h2 q a1 q' b1 e
  · rw [hsp] at hq
    rcases List.mem_append.mp hq with hq | hq
    · obtain ⟨hmq, hne, hne2⟩ := hx q hq
      rw [had q hne]
      exact h3 q hmq
    · rw [List.mem_singleton.mp hq, haa]
      exact h3 (66, 0) hmT
  · rw [hsp]
    refine List.nodup_append.mpr ⟨?_, by simp, fun x hx1 y hy e => ?_⟩
    · have h5 := List.nodup_append.mp h4
      exact List.nodup_append.mpr ⟨h5.1, h5.2.1.filter _, fun x hx1 y hy => h5.2.2 x hx1 y (List.mem_filter.mp hy).1⟩
    · rw [List.mem_singleton.mp hy] at e
      exact (hx x hx1).2.1 e
  · rw [qrw_ne _ _ (by omega), qu_other σ (by omega)]
section QOB2
variable {p : Program} {l : Launch} {e : Env} {R : Room} {s : State} {m : MethodId} {args : Array Value} {below : List Frame} {meth : Method} {c : Code} {g : qG} {nL : Nat} {Qf : qO → State → Prop} {o : Option qO} {cb sb pc : Nat} {L : List (Option qA)} {st : List qA} {σ : qS} {cc : ByteArray} {own : String}
/-- the bytes at hand become its bytes -/
theorem qv_putv (C : qC p l s m meth c cc nL own g) {K KB j ci idx : Nat} {C0 : String} {T : u_T} (ho : qob K KB ci) (hCl : qClj ci C0 T) (hF : Cond.fieldLink own idx (T 0).1 (T 0).2.1 (T 0).2.2.1 ∈ qWA) (hm : (K, j) ∈ qX9 g) (hm2 : (66, 0) ∈ qX9 g) (hfin : (T 0).2.2.2 = false ∨ ((T 0).2.2.2 = true ∧ meth.name = "<init>" ∧ (T 0).1 = own)) (hty : parseFieldDescriptor (T 0).2.2.1 = some (.array .byte)) (hL : qfL [(KB, j), (66, 0)] L) (hS : qfS [(KB, j), (66, 0)] st) (d : decode cc pc = .ok (.putfield idx, 3))
    (k : ∀ g1 : qG, qC p l s m meth c cc nL own g1 → qEv [(KB, j), (66, 0)] g g1 → (KB, j) ∈ qX9 g1 → qV p l e R s m args below meth c g1 nL Qf o cb sb (pc + 3) L st (qrw (qu σ K j 5 1) KB j (σ 66 0))) : qV p l e R s m args below meth c g nL Qf o cb sb pc L (qR 66 0 :: qR K j :: st) σ := by
  intro r hr ls H locs cells slots h1 h2 h3 h4 h5
  have hK : 50 ≤ KB := by rcases ho with ⟨-, h, -⟩ | ⟨-, h, -⟩ <;> omega
  have C' := C
  obtain ⟨hx0, hb, hml, hown, hE, -, -⟩ := C
  obtain ⟨q0, hc0, hq⟩ := qws_in g σ (List.mem_append_right qcl hm)
  obtain ⟨hcl, hin, hnm, ty0, hty0, -⟩ := hCl
  rw [qob_ent ho] at hq
  have E := qmv_ev (g := g) (j := j) hK
  have K1 : ∀ (H1 : Heap) (locs1 : List Loc), va_P g.1 qcls ((qws g σ).set q0 (g.2.2.1 K j, .inr (ci, ([qnr (σ K j 5) (g.2.2.1 KB j), .int (σ K j 1), .int (σ K j 2), .int (σ K j 3)] : List Value).set 0 (.ref (g.2.2.1 66 0))))) H1 → va_S (qAf g) s.heap H1 locs1 → W p l e R s m args below meth c H1 locs1 cells slots (Qf r) (F0 m (pc + 3) ls (st.map (qcv g))) := by
    intro H1 locs1 hP1 hS1
    have hH := qH_mv ho h2 hm hm2 hc0 hP1
    have K2 := k (qmv g KB j) (E.C C') E qmv_in r hr ls H1 locs1 cells slots (E.Ls hL h1) hH (by rw [E.Af]; exact hS1) h4 h5
    rw [E.map hS] at K2
    exact K2
  rcases hfin with hfin | ⟨hfin, hin2, hdecl⟩
  · exact va_put hx0 hb (qwords (a := args) hE.1) hin ty0 hty0 hnm hown hE.1.1 h2.1 h2.2.1 h3 q0 hq hcl 0 (by decide) (qword hE.1 hF) (fun _ h => h) hfin hty rfl rfl (by simp) d (fun H1 locs1 hP1 hD1 hS1 => K1 H1 locs1 hP1 hS1)
  · exact va_putF hx0 hb (qwords (a := args) hE.1) hin ty0 hty0 hnm hown hE.1.1 h2.1 h2.2.1 h3 q0 hq hcl 0 (by decide) (qword hE.1 hF) (fun _ h => h) hfin hin2 hdecl hty rfl rfl (by simp) d (fun H1 locs1 hP1 hD1 hS1 => K1 H1 locs1 hP1 hS1)
end QOB2
