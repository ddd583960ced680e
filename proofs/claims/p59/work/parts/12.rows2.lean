/-! rows of guarded stores, of null, of one of a kind -/
def qvS (K : Nat) (k : qS → Option qO) : Option qA → qS → Option qO := fun v σ => match v with
  | some (.inr q) => if q.1 = K ∧ q.2 = 0 then k σ else none
  | _ => none
theorem q3lt {i : Int32} (h : qin i 8) : 3 + i.toNatClampNeg < 11 := by
  have h1 := qin_vp h
  have : ¬ 8 ≤ i.toNatClampNeg := fun q => h1 (Or.inr q)
  omega
theorem q8lt {i : Int32} (h : qin i 8) : i.toNatClampNeg < 8 := by
  have h1 := qin_vp h
  have : ¬ 8 ≤ i.toNatClampNeg := fun q => h1 (Or.inr q)
  omega
section QR2
variable {p : Program} {l : Launch} {e : Env} {R : Room} {s : State} {m : MethodId} {args : Array Value} {below : List Frame} {meth : Method} {c : Code} {g : qG} {nL : Nat} {Qf : qO → State → Prop} {o : Option qO} {cb sb pc : Nat} {L : List (Option qA)} {st : List qA} {σ : qS} {cc : ByteArray} {own : String}
theorem qkOne {K : Nat} {k : qS → Option qO} {rest : List qA} (h : ∀ σ1 : qS, qV p l e R s m args below meth c g nL Qf (k σ1) cb sb pc L (qR K 0 :: rest) σ1) : ∀ (v : Option qA) (σ1 : qS), qV p l e R s m args below meth c g nL Qf (qvS K k v σ1) cb sb pc L (v.toList ++ rest) σ1
  | some (.inr (K', j)), σ1 => by
    show qV p l e R s m args below meth c g nL Qf (if K' = K ∧ j = 0 then k σ1 else none) cb sb pc L (qR K' j :: rest) σ1
    by_cases h1 : K' = K ∧ j = 0
    · rw [if_pos h1]; obtain ⟨rfl, rfl⟩ := h1; exact h σ1
    · rw [if_neg h1]; exact qV.no
  | none, _ | some (.inl _), _ => qV.no
theorem qv_putZ (C : qC p l s m meth c cc nL own g) {C0 : String} {T : u_T} {N idx kd j f : Nat} {x : Int32} (hF : qFl own idx C0 T f) (hCl : qCl (qci kd) C0 T N) (hsh : qsh kd = 0) (hf : f < N) (hkd : kd < 26) (hj : j < qn kd) (hfd : (qfs kd)[f]? = some none) (hfin : (T f).2.2.2 = false) (hty : parseFieldDescriptor (T f).2.2.1 = some .boolean) (d : decode cc pc = .ok (.putfield idx, 3)) (k : qbo x → qV p l e R s m args below meth c g nL Qf o cb sb (pc + 3) L st (qu σ kd j f x)) : qV p l e R s m args below meth c g nL Qf (if qbo x then o else none) cb sb pc L (qI x :: qR kd j :: st) σ := by
  by_cases h : qbo x
  · rw [if_pos h]; exact qv_putI C hF hCl hsh hf hkd hj hfd hfin hty (qbo_nar h) (qbo_fits h) d (k h)
  · rw [if_neg h]; exact qV.no
theorem qv_putC (C : qC p l s m meth c cc nL own g) {C0 : String} {T : u_T} {N idx kd j f : Nat} {x : Int32} (hF : qFl own idx C0 T f) (hCl : qCl (qci kd) C0 T N) (hsh : qsh kd = 0) (hf : f < N) (hkd : kd < 26) (hj : j < qn kd) (hfd : (qfs kd)[f]? = some none) (hfin : (T f).2.2.2 = false) (hty : parseFieldDescriptor (T f).2.2.1 = some .char) (d : decode cc pc = .ok (.putfield idx, 3)) (k : qch x → qV p l e R s m args below meth c g nL Qf o cb sb (pc + 3) L st (qu σ kd j f x)) : qV p l e R s m args below meth c g nL Qf (if qch x then o else none) cb sb pc L (qI x :: qR kd j :: st) σ := by
  by_cases h : qch x
  · rw [if_pos h]; exact qv_putI C hF hCl hsh hf hkd hj hfd hfin hty (qch_nar h) (qch_fits h) d (k h)
  · rw [if_neg h]; exact qV.no
theorem qv_idiv! (C : qC p l s m meth c cc nL own g) {x y : Int32} (h : ¬ y = 0) (d : decode cc pc = .ok (.idiv, 1)) (k : qV p l e R s m args below meth c g nL Qf o cb sb (pc + 1) L (qI (x / y) :: st) σ) : qV p l e R s m args below meth c g nL Qf o cb sb pc L (qI y :: qI x :: st) σ :=
  fun r hr ls H locs cells slots h1 h2 h3 h4 h5 => lv_idiv C.1 C.2.1 d h (k r hr ls H locs cells slots h1 h2 h3 h4 h5)
theorem qv_irem! (C : qC p l s m meth c cc nL own g) {x y : Int32} (h : ¬ y = 0) (d : decode cc pc = .ok (.irem, 1)) (k : qV p l e R s m args below meth c g nL Qf o cb sb (pc + 1) L (qI (x - x / y * y) :: st) σ) : qV p l e R s m args below meth c g nL Qf o cb sb pc L (qI y :: qI x :: st) σ :=
  fun r hr ls H locs cells slots h1 h2 h3 h4 h5 => lv_irem C.1 C.2.1 d h (k r hr ls H locs cells slots h1 h2 h3 h4 h5)
theorem qv_ifnullR (C : qC p l s m meth c cc nL own g) {a : Nat × Nat} {off : Int} (d : decode cc pc = .ok (.ifnull off, 3)) (k : qV p l e R s m args below meth c g nL Qf o cb sb (pc + 3) L st σ) : qV p l e R s m args below meth c g nL Qf o cb sb pc L (.inr a :: st) σ :=
  fun r hr ls H locs cells slots h1 h2 h3 h4 h5 => lv_ifnull C.1 C.2.1 d (k r hr ls H locs cells slots h1 h2 h3 h4 h5)
theorem qv_ifnonnullR (C : qC p l s m meth c cc nL own g) {a : Nat × Nat} {off : Int} {tgt : Nat} (d : decode cc pc = .ok (.ifnonnull off, 3)) (ht : (pc : Int) + off = (tgt : Int)) (k : qV p l e R s m args below meth c g nL Qf o cb sb tgt L st σ) : qV p l e R s m args below meth c g nL Qf o cb sb pc L (.inr a :: st) σ :=
  fun r hr ls H locs cells slots h1 h2 h3 h4 h5 => lv_ifnonnull C.1 C.2.1 d ht (k r hr ls H locs cells slots h1 h2 h3 h4 h5)
theorem qv_ifnullN (C : qC p l s m meth c cc nL own g) {off : Int} {tgt : Nat} (d : decode cc pc = .ok (.ifnull off, 3)) (ht : (pc : Int) + off = (tgt : Int)) (k : qV p l e R s m args below meth c g nL Qf o cb sb tgt L st σ) : qV p l e R s m args below meth c g nL Qf o cb sb pc L (.inl .null :: st) σ :=
  fun r hr ls H locs cells slots h1 h2 h3 h4 h5 => lv_ifnullN C.1 C.2.1 d ht (k r hr ls H locs cells slots h1 h2 h3 h4 h5)
theorem qv_ifnonnullN (C : qC p l s m meth c cc nL own g) {off : Int} (d : decode cc pc = .ok (.ifnonnull off, 3)) (k : qV p l e R s m args below meth c g nL Qf o cb sb (pc + 3) L st σ) : qV p l e R s m args below meth c g nL Qf o cb sb pc L (.inl .null :: st) σ :=
  fun r hr ls H locs cells slots h1 h2 h3 h4 h5 => lv_ifnonnullN C.1 C.2.1 d (k r hr ls H locs cells slots h1 h2 h3 h4 h5)
end QR2
