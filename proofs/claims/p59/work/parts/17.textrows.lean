/-! rows of texts, constant ones or made on the way; the script by its name; lists of names that are held -/
def qLv (g : qG) (l : List (Nat × Nat)) : Prop := ∀ q ∈ l, q ∈ qX9 g
theorem qSt.by {g : qG} {k j : Nat} (h : qSt g k j) : qBy g (qvk k) j := by
  rcases h with ⟨rfl, hj⟩ | ⟨rfl, -, hm⟩
  · exact Or.inl ⟨rfl, hj⟩
  · exact Or.inr (Or.inr ⟨Or.inl rfl, hm⟩)
theorem qSt.ev {D : List (Nat × Nat)} {g g1 : qG} {k j : Nat} (h : qSt g k j) (E : qEv D g g1) (h1 : qnd 60 j D) (h2 : qnd 61 j D) : qSt g1 k j := by
  rcases h with ⟨rfl, hj⟩ | ⟨rfl, hm, hm2⟩
  · exact Or.inl ⟨rfl, hj⟩
  · exact Or.inr ⟨rfl, E.live hm h1, E.live hm2 h2⟩
/-- the script's numbers have these names -/
def qScr (g : qG) (LL : Nat) (xs : Nat → Int32) : Prop := qLL g = LL ∧ qxs g = xs
theorem qScr.ev {D : List (Nat × Nat)} {g g1 : qG} {LL : Nat} {xs : Nat → Int32} (h : qScr g LL xs) (E : qEv D g g1) : qScr g1 LL xs := by
  obtain ⟨h1, h2⟩ := h
  have e := E.2.2.2.1
  refine ⟨?_, ?_⟩
  · show g1.2.2.2.2.2.1 = LL
    rw [e]; exact h1
  · show g1.2.2.2.2.2.2 = xs
    rw [e]; exact h2
section QTX
variable {p : Program} {l : Launch} {e : Env} {R : Room} {s : State} {m : MethodId} {args : Array Value} {below : List Frame} {meth : Method} {c : Code} {g : qG} {nL : Nat} {Qf : qO → State → Prop} {o : Option qO} {cb sb pc : Nat} {L : List (Option qA)} {st : List qA} {σ : qS} {cc : ByteArray} {own : String}
theorem qv_stv (C : qC p l s m meth c cc nL own g) {K j idx : Nat} (hs : qSt g K j) (hF : Cond.fieldLink own idx (TJ0 0).1 (TJ0 0).2.1 (TJ0 0).2.2.1 ∈ qWA) (hCl : qClj 6 RJ0 TJ0) (d : decode cc pc = .ok (.getfield idx, 3)) (k : ¬ σ K j 5 = 0 → qV p l e R s m args below meth c g nL Qf o cb sb (pc + 3) L (qR (qvk K) j :: st) σ) : qV p l e R s m args below meth c g nL Qf (if σ K j 5 = 0 then none else o) cb sb pc L (qR K j :: st) σ := by
  rcases hs with ⟨rfl, hj⟩ | ⟨rfl, hm, -⟩
  · by_cases h0 : σ 42 j 5 = 0
    · rw [if_pos h0]; exact qV.no
    · rw [if_neg h0]
      intro r hr ls H locs cells slots h1 h2 h3 h4 h5
      obtain ⟨hx0, hb, hml, hown, hE, -, -⟩ := C
      obtain ⟨cf, kf, fi, f, cell, e1, e2, e3, e4, e5, e6⟩ := (hE.2.2.1 j hj).2.2.1.kept h3.2.1
      exact W.getf hx0 hb hown (qword (a := args) hE.1 hF) e1 e2 e3 e4 (v := .ref (g.2.2.1 44 j)) e5 rfl rfl d (k h0 r hr ls H locs cells slots h1 h2 h3 h4 h5)
  · exact qv_getv C (KB := 61) (Or.inl ⟨rfl, rfl, rfl⟩) hCl (Or.inl hF) hm d k
theorem qv_stc (C : qC p l s m meth c cc nL own g) {K j idx : Nat} (hs : qSt g K j) (hF : Cond.fieldLink own idx (TJ0 1).1 (TJ0 1).2.1 (TJ0 1).2.2.1 ∈ qWA) (hCl : qClj 6 RJ0 TJ0) (d : decode cc pc = .ok (.getfield idx, 3)) (k : qV p l e R s m args below meth c g nL Qf o cb sb (pc + 3) L (qI (σ K j 1) :: st) σ) : qV p l e R s m args below meth c g nL Qf o cb sb pc L (qR K j :: st) σ := by
  rcases hs with ⟨rfl, hj⟩ | ⟨rfl, hm, -⟩
  · intro r hr ls H locs cells slots h1 h2 h3 h4 h5
    obtain ⟨hx0, hb, hml, hown, hE, -, -⟩ := C
    obtain ⟨cf, kf, fi, f, cell, e1, e2, e3, e4, e5, e6⟩ := (hE.2.2.1 j hj).2.1.kept h3.2.1
    have K1 := k r hr ls H locs cells slots h1 h2 h3 h4 h5
    rw [(h2.2.2.1 j hj).1] at K1
    exact W.getf hx0 hb hown (qword (a := args) hE.1 hF) e1 e2 e3 e4 (v := .int 0) e5 rfl rfl d K1
  · exact qv_geto C (KB := 61) (f := 1) (Or.inl ⟨rfl, rfl, rfl⟩) hCl (Or.inl hF) hm ⟨rfl, Or.inl rfl⟩ d k
theorem qv_slenX (C : qC p l s m meth c cc nL own g) {LL : Nat} {xs : Nat → Int32} (hX : qScr g LL xs) (d : decode cc pc = .ok (.arraylength, 1)) (k : qV p l e R s m args below meth c g nL Qf o cb sb (pc + 1) L (qI (Int32.ofNat LL) :: st) σ) : qV p l e R s m args below meth c g nL Qf o cb sb pc L (qR 45 0 :: st) σ := by
  obtain ⟨h1, h2⟩ := hX
  subst h1
  exact qv_slen C d k
theorem qv_sldX (C : qC p l s m meth c cc nL own g) {LL : Nat} {xs : Nat → Int32} (hX : qScr g LL xs) {i : Int32} (d : decode cc pc = .ok (.iaload, 1)) (k : qin i LL → qV p l e R s m args below meth c g nL Qf o cb sb (pc + 1) L (qI (xs i.toNatClampNeg) :: st) σ) : qV p l e R s m args below meth c g nL Qf (if qin i LL then o else none) cb sb pc L (qI i :: qR 45 0 :: st) σ := by
  obtain ⟨h1, h2⟩ := hX
  subst h1
  subst h2
  exact qv_sld C d k
/-- a static call, with handlers at hand -/
theorem qh_callS (C : qC p l s m meth c cc nL own g) {idx mL n d mc ms : Nat} {y : MethodName} {b : ByteArray} {ret : Option FieldType} {As rest : List qA} {o1 : Option qO} {kv : Option qA → qS → Option qO} {kE : String → qS → Option qO} (hM : qM g l d mc ms (.code y b mL ret) y As σ o1) (hw : qMw y b mL n ret) (hl : Cond.methodLink own idx y ∈ qWA) (hstt : Cond.static y ∈ qWA) (hn : As.length = n) (hrest : (rest.map qcat).sum ≤ 8) (hR : d + 11 ≤ R.frames ∧ 8 + (mL + 11) + (64 * d + 1000) ≤ R.locals) (dd : decode cc pc = .ok (.invokestatic idx, 3))
    (hst : st = As.reverse ++ rest) (k : ∀ (v : Option qA) (σ1 : qS), qV p l e R s m args below meth c g nL Qf (kv v σ1) cb sb (pc + 3) L (v.toList ++ rest) σ1) (kx : ∀ (E : String) (σ1 : qS), qVX p l e R s m args below meth c g nL Qf (kE E σ1) cb sb pc L rest σ1 E) : qV p l e R s m args below meth c g nL Qf (qbind o1 kv kE) (mc + cb) (ms + sb) pc L st σ := by
  subst hst
  intro r hr ls H locs cells slots h1 h2 h3 h4 h5
  match o1, hM, hr with
  | none, _, hr => cases hr
  | some (.inr E, σ1), hM, hr =>
    refine qv_core (qrunS C hM rfl hw hl hstt hn hrest hR dd h1 h2 h3 (by omega) (by omega)) h3 (fun v2 hv2 => ?_) (fun E2 hE2 ce q9 H1 locs1 hb1 hS1 hce hcv hcl => ?_)
    · cases hv2
    · cases hE2
      exact kx E σ1 r hr ls H1 locs1 _ _ ce q9 h1 hb1 hS1 (by omega) (by omega) hce hcv hcl
  | some (.inl v, σ1), hM, hr =>
    refine qv_core (qrunS C hM rfl hw hl hstt hn hrest hR dd h1 h2 h3 (by omega) (by omega)) h3 (fun v2 hv2 H1 locs1 hb1 hS1 => ?_) (fun E hE2 => ?_)
    · cases hv2
      rw [qv_map]
      exact k v σ1 r hr ls H1 locs1 _ _ h1 hb1 hS1 (by omega) (by omega)
    · cases hE2
end QTX
/-- ireturn of a number that is a byte -/
def qby (x : Int32) : Prop := x.toInt8.toInt32 = x
theorem qv_yret {p : Program} {l : Launch} {e : Env} {R : Room} {s : State} {m : MethodId} {args : Array Value} {below : List Frame} {meth : Method} {c : Code} {g : qG} {nL : Nat} {cb sb pc : Nat} {L : List (Option qA)} {σ : qS} {cc : ByteArray} {own : String} (C : qC p l s m meth c cc nL own g) (hr : meth.sig.returnType = some .byte) {x : Int32} (d : decode cc pc = .ok (.ireturn, 1)) : qV p l e R s m args below meth c g nL (qQf g below args s R) (if x.toInt8.toInt32 = x then some (.inl (some (qI x)), σ) else none) cb sb pc L [qI x] σ := by
  by_cases h : x.toInt8.toInt32 = x
  · rw [if_pos h]
    refine qv_zret! C hr ?_ d
    show Value.int x.toInt8.toInt32 = .int x
    rw [h]
  · rw [if_neg h]; exact qV.no
/-! the slots that the day loop takes, longer texts on later days: n is what is left of its rounds -/
def qdT (a c : Nat) : Nat → Nat
  | 0 => 0
  | n + 1 => qdT a c n + (a * (3 * (138 - n)) + c)
theorem qdT_s (a c n : Nat) : qdT a c (n + 1) = qdT a c n + (a * (3 * (138 - n)) + c) := rfl
theorem qSt.nd {D : List (Nat × Nat)} {g : qG} {k j : Nat} (h : qSt g k j) (h1 : qnd 60 j D) (h2 : qnd 42 j D) : qnd k j D := by
  rcases h with ⟨rfl, -⟩ | ⟨rfl, -, -⟩
  · exact h2
  · exact h1
