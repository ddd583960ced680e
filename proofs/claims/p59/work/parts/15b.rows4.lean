/-! further rows of the JDK's members -/
section QJ2
variable {p : Program} {l : Launch} {e : Env} {R : Room} {s : State} {m : MethodId} {args : Array Value} {below : List Frame} {meth : Method} {c : Code} {g : qG} {nL : Nat} {Qf : qO → State → Prop} {o : Option qO} {cb sb pc : Nat} {L : List (Option qA)} {st : List qA} {σ : qS} {cc : ByteArray} {own : String}
/-! a switch by a table -/
def qsw (x : Int32) : Int → List (Option qO) → Option qO → Option qO
  | _, [], od => od
  | k, o1 :: t, od => if x.toInt = k then o1 else qsw x (k + 1) t od
def qVs (P : Option qO → Nat → Prop) : List (Option qO) → List Nat → Prop
  | [], [] => True
  | o1 :: os, t1 :: ts => P o1 t1 ∧ qVs P os ts
  | _, _ => False
theorem qVs_len {P : Option qO → Nat → Prop} : ∀ {os : List (Option qO)} {ts : List Nat}, qVs P os ts → os.length = ts.length
  | [], [], _ => rfl
  | _ :: _, _ :: _, h => by simp [qVs_len h.2]
theorem qVs_at {P : Option qO → Nat → Prop} : ∀ {os : List (Option qO)} {ts : List Nat}, qVs P os ts → ∀ (i : Nat) (o1 : Option qO) (t1 : Nat), os[i]? = some o1 → ts[i]? = some t1 → P o1 t1
  | [], [], _, i, _, _, h, _ => by simp at h
  | _ :: _, _ :: _, h, 0, _, _, h1, h2 => by simp at h1 h2; subst h1; subst h2; exact h.1
  | _ :: _, _ :: _, h, i + 1, _, _, h1, h2 => qVs_at h.2 i _ _ (by simpa using h1) (by simpa using h2)
theorem qsw_case {P : Option qO → Prop} {x : Int32} {od : Option qO} : ∀ (os : List (Option qO)) (k : Int), (¬ (k ≤ x.toInt ∧ x.toInt < k + os.length) → P od) → (∀ (i : Nat) (o1 : Option qO), os[i]? = some o1 → x.toInt = k + i → P o1) → P (qsw x k os od)
  | [], k, hd, _ => hd (by simp)
  | o1 :: t, k, hd, hs => by
    unfold qsw
    split
    · exact hs 0 o1 rfl (by simpa using ‹x.toInt = k›)
    · rename_i hne
      refine qsw_case t (k + 1) (fun h => hd (fun h2 => h ?_)) (fun i o2 h1 h2 => hs (i + 1) o2 (by simpa using h1) (by rw [h2]; push_cast; omega))
      simp only [List.length_cons] at h2
      push_cast at h2
      omega
theorem qv_tsw (C : qC p l s m meth c cc nL own g) {dflt lo hi : Int} {offs : Array Int} {n : Nat} {x : Int32} {os : List (Option qO)} {od : Option qO} {tg : List Nat} {dt : Nat} (d : decode cc pc = .ok (.tableswitch dflt lo hi offs, n)) (hhi : hi = lo + offs.toList.length - 1) (htg : offs.toList.map (fun z => (pc : Int) + z) = tg.map (fun t : Nat => Int.ofNat t)) (hdt : (pc : Int) + dflt = (dt : Int)) (ks : qVs (fun o1 t1 => qV p l e R s m args below meth c g nL Qf o1 cb sb t1 L st σ) os tg) (kd : qV p l e R s m args below meth c g nL Qf od cb sb dt L st σ) : qV p l e R s m args below meth c g nL Qf (qsw x lo os od) cb sb pc L (qI x :: st) σ := by
  have hlen : os.length = tg.length := qVs_len ks
  have hlen2 : offs.toList.length = tg.length := by
    have := congrArg List.length htg
    simpa using this
  refine qsw_case (P := fun o1 => qV p l e R s m args below meth c g nL Qf o1 cb sb pc L (qI x :: st) σ) os lo (fun hout => ?_) (fun i o1 hi1 hx => ?_)
  · intro r hr ls H locs cells slots h1 h2 h3 h4 h5
    exact lv_tableOut C.1 C.2.1 d (by omega) hdt (kd r hr ls H locs cells slots h1 h2 h3 h4 h5)
  · intro r hr ls H locs cells slots h1 h2 h3 h4 h5
    have hil : i < os.length := (List.getElem?_eq_some_iff.mp hi1).1
    have hit : i < tg.length := by omega
    have hio : i < offs.toList.length := by omega
    have e1 : (offs.toList.map (fun z => (pc : Int) + z))[i]? = (tg.map (fun t : Nat => Int.ofNat t))[i]? := by rw [htg]
    rw [List.getElem?_map, List.getElem?_map, List.getElem?_eq_getElem hio, List.getElem?_eq_getElem hit] at e1
    simp only [Option.map_some, Option.some.injEq] at e1
    refine lv_tableIn (off := offs.toList[i]) (tgt := tg[i]) C.1 C.2.1 d (by omega) (by omega) ?_ e1 (qVs_at ks i o1 _ hi1 (List.getElem?_eq_getElem hit) r hr ls H locs cells slots h1 h2 h3 h4 h5)
    rw [show (x.toInt - lo).toNat = i by omega, ← Array.getElem?_toList, List.getElem?_eq_getElem hio]
theorem qv_dcmp (C : qC p l s m meth c cc nL own g) {x y : UInt64} {op : CmpOp} (d : decode cc pc = .ok (.dcmp op, 1)) (k : qV p l e R s m args below meth c g nL Qf o cb sb (pc + 1) L (qI (Op.cmpValue (FP.dcmp x y) op) :: st) σ) : qV p l e R s m args below meth c g nL Qf o cb sb pc L (.inl (.double y) :: .inl (.double x) :: st) σ :=
  fun r hr ls H locs cells slots h1 h2 h3 h4 h5 => lv_dcmp C.1 C.2.1 d (k r hr ls H locs cells slots h1 h2 h3 h4 h5)
theorem qv_fcmp (C : qC p l s m meth c cc nL own g) {x y : UInt32} {op : CmpOp} (d : decode cc pc = .ok (.fcmp op, 1)) (k : qV p l e R s m args below meth c g nL Qf o cb sb (pc + 1) L (qI (Op.cmpValue (FP.fcmp x y) op) :: st) σ) : qV p l e R s m args below meth c g nL Qf o cb sb pc L (.inl (.float y) :: .inl (.float x) :: st) σ :=
  fun r hr ls H locs cells slots h1 h2 h3 h4 h5 => lv_fcmp C.1 C.2.1 d (k r hr ls H locs cells slots h1 h2 h3 h4 h5)
end QJ2
