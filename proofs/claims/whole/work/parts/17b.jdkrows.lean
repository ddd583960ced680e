/-! further rows of the JDK's members -/
section QJ2
variable {p : Program} {l : Launch} {e : Env} {R : Room} {s : State} {m : MethodId} {args : Array Value} {below : List Frame} {meth : Method} {c : Code} {g : qG} {nL : Nat} {Qf : qO → State → Prop} {o : Option qO} {cb sb pc : Nat} {L : List (Option qA)} {st : List qA} {σ : qS} {cc : ByteArray} {own : String}
/-! a switch by a table -/
def qsw (x : Int32) : Int → List (Option qO) → Option qO → Option qO
  | _, [], od => od
  | k, o1 :: t, od => if x.toInt = k then o1 else qsw x (k + 1) t od
def qVs (P : Option qO → Nat → Prop) : List (Option qO) → List Nat → Prop
  | [], [] => True
  | o1 :: os, t1 :: ts => P o1 t1 ∧ qVs P os ts
  | _, _ => False
theorem qVs_len {P : Option qO → Nat → Prop} : ∀ {os : List (Option qO)} {ts : List Nat}, qVs P os ts → os.length = ts.length
  | [], [], _ => rfl
  | _ :: _, _ :: _, h => by simp [qVs_len h.2]
theorem qVs_at {P : Option qO → Nat → Prop} : ∀ {os : List (Option qO)} {ts : List Nat}, qVs P os ts → ∀ (i : Nat) (o1 : Option qO) (t1 : Nat), os[i]? = some o1 → ts[i]? = some t1 → P o1 t1
  | [], [], _, i, _, _, h, _ => by simp at h
  | _ :: _, _ :: _, h, 0, _, _, h1, h2 => by simp at h1 h2; subst h1; subst h2; exact h.1
  | _ :: _, _ :: _, h, i + 1, _, _, h1, h2 => qVs_at h.2 i _ _ (by simpa using h1) (by simpa using h2)
theorem qsw_case {P : Option qO → Prop} {x : Int32} {od : Option qO} : ∀ (os : List (Option qO)) (k : Int), (¬ (k ≤ x.toInt ∧ x.toInt < k + os.length) → P od) → (∀ (i : Nat) (o1 : Option qO), os[i]? = some o1 → x.toInt = k + i → P o1) → P (qsw x k os od)
  | [], k, hd, _ => hd (by simp)
  | o1 :: t, k, hd, hs => by
    unfold qsw
    split
    · exact hs 0 o1 rfl (by simpa using ‹x.toInt = k›)
    · rename_i hne
      refine qsw_case t (k + 1) (fun h => hd (fun h2 => h ?_)) (fun i o2 h1 h2 => hs (i + 1) o2 (by simpa using h1) (by rw [h2]; push_cast; omega))
      simp only [List.length_cons] at h2
      push_cast at h2
      omega
theorem qv_tsw (C : qC p l s m meth c cc nL own g) {dflt lo hi : Int} {offs : Array Int} {n : Nat} {x : Int32} {os : List (Option qO)} {od : Option qO} {tg : List Nat} {dt : Nat} (d : decode cc pc = .ok (.tableswitch dflt lo hi offs, n)) (hhi : hi = lo + offs.toList.length - 1) (htg : offs.toList.map (fun z => (pc : Int) + z) = tg.map (fun t : Nat => Int.ofNat t)) (hdt : (pc : Int) + dflt = (dt : Int)) (ks : qVs (fun o1 t1 => qV p l e R s m args below meth c g nL Qf o1 cb sb t1 L st σ) os tg) (kd : qV p l e R s m args below meth c g nL Qf od cb sb dt L st σ) : qV p l e R s m args below meth c g nL Qf (qsw x lo os od) cb sb pc L (qI x :: st) σ := by
  have hlen : os.length = tg.length := qVs_len ks
  have hlen2 : offs.toList.length = tg.length := by
    have := congrArg List.length htg
    simpa using this
  refine qsw_case (P := fun o1 => qV p l e R s m args below meth c g nL Qf o1 cb sb pc L (qI x :: st) σ) os lo (fun hout => ?_) (fun i o1 hi1 hx => ?_)
  · intro r hr ls H locs cells slots h1 h2 h3 h4 h5
    exact lv_tableOut C.1 C.2.1 d (by omega) hdt (kd r hr ls H locs cells slots h1 h2 h3 h4 h5)
  · intro r hr ls H locs cells slots h1 h2 h3 h4 h5
    have hil : i < os.length := (List.getElem?_eq_some_iff.mp hi1).1
    have hit : i < tg.length := by omega
    have hio : i < offs.toList.length := by omega
    have e1 : (offs.toList.map (fun z => (pc : Int) + z))[i]? = (tg.map (fun t : Nat => Int.ofNat t))[i]? := by rw [htg]
    rw [List.getElem?_map, List.getElem?_map, List.getElem?_eq_getElem hio, List.getElem?_eq_getElem hit] at e1
    simp only [Option.map_some, Option.some.injEq] at e1
    refine lv_tableIn (off := offs.toList[i]) (tgt := tg[i]) C.1 C.2.1 d (by omega) (by omega) ?_ e1 (qVs_at ks i o1 _ hi1 (List.getElem?_eq_getElem hit) r hr ls H locs cells slots h1 h2 h3 h4 h5)
    rw [show (x.toInt - lo).toNat = i by omega, ← Array.getElem?_toList, List.getElem?_eq_getElem hio]
/-! doubles -/
def qhi (x : UInt64) : Int32 := (x >>> 32).toUInt32.toInt32
def qlo (x : UInt64) : Int32 := x.toUInt32.toInt32
theorem qdb_hl (x : UInt64) : qdb (qhi x) (qlo x) = x := by
  show ((x >>> 32).toUInt32.toUInt64 <<< 32 ||| x.toUInt32.toUInt64) = x
  rw [← UInt64.toNat_inj]
  have hx := UInt64.toNat_lt x
  simp only [UInt64.toNat_or, UInt64.toNat_shiftLeft, UInt64.toNat_shiftRight, UInt32.toNat_toUInt64, UInt64.toNat_toUInt32]
  have e1 : (32 : UInt64).toNat % 64 = 32 := by decide
  rw [e1, Nat.shiftRight_eq_div_pow]
  have h1 : x.toNat / 2 ^ 32 % 2 ^ 32 = x.toNat / 2 ^ 32 := Nat.mod_eq_of_lt (by omega)
  rw [h1]
  have h2 : (x.toNat / 2 ^ 32) <<< 32 % 2 ^ 64 = (x.toNat / 2 ^ 32) <<< 32 := by rw [Nat.shiftLeft_eq]; exact Nat.mod_eq_of_lt (by omega)
  rw [h2, ← Nat.shiftLeft_add_eq_or_of_lt (show x.toNat % 2 ^ 32 < 2 ^ 32 by omega), Nat.shiftLeft_eq]
  omega
abbrev qsd (σ : qS) (x : UInt64) : qS := qu (qu σ 39 0 0 (qhi x)) 39 0 1 (qlo x)
theorem qv_dald (C : qC p l s m meth c cc nL own g) (d : decode cc pc = .ok (.daload, 1)) (k : qV p l e R s m args below meth c g nL Qf o cb sb (pc + 1) L (.inl (.double (qdb (σ 39 0 0) (σ 39 0 1))) :: st) σ) : qV p l e R s m args below meth c g nL Qf o cb sb pc L (qI (0 : Int32) :: qR 39 0 :: st) σ := by
  intro r hr ls H locs cells slots h1 h2 h3 h4 h5
  obtain ⟨hx0, hb, hml, hown, hE, -, -⟩ := C
  obtain ⟨q0, -, hq⟩ := qws_at g σ (k := 39) (j := 0) (by decide) (by decide)
  rw [qent6 (by decide)] at hq
  exact va_dald hx0 hb hE.1.1 h2.1 q0 5 hq rfl (i := 0) (qin_vp (by decide)) d (k r hr ls H locs cells slots h1 h2 h3 h4 h5)
theorem qv_dast (C : qC p l s m meth c cc nL own g) {x : UInt64} (d : decode cc pc = .ok (.dastore, 1)) (k : qV p l e R s m args below meth c g nL Qf o cb sb (pc + 1) L st (qsd σ x)) : qV p l e R s m args below meth c g nL Qf o cb sb pc L (.inl (.double x) :: qI (0 : Int32) :: qR 39 0 :: st) σ := by
  intro r hr ls H locs cells slots h1 h2 h3 h4 h5
  obtain ⟨hx0, hb, hml, hown, hE, -, -⟩ := C
  obtain ⟨q0, hc0, hq⟩ := qws_at g σ (k := 39) (j := 0) (by decide) (by decide)
  have hset := qws_set (σ' := qsd σ x) h2.2 hc0 hq (fun a b h => by rw [qsd, qu_other _ h, qu_other _ h])
  have he : qent g 39 0 (qsd σ x 39 0) = .inl (g.2.1 5, qlen 39, .inr (.inr (.inr (.inl (vf_upd (fun i => qdb (σ 39 0 (2 * i)) (σ 39 0 (2 * i + 1))) (0 : Int32).toNatClampNeg x))))) := by
    rw [qent6 (by decide)]
    congr 7
    funext z
    by_cases hz : z = 0
    · subst hz
      simp [qsd, qu, upd, vf_upd, qdb_hl]
    · have e1 : ¬ 2 * z = 0 := by omega
      have e2 : ¬ 2 * z = 1 := by omega
      have e3 : ¬ 2 * z + 1 = 1 := by omega
      have e4 : ¬ 2 * z + 1 = 0 := by omega
      simp [qsd, qu, upd, vf_upd, hz, e1, e2, e3, e4]
  rw [he] at hset
  rw [qent6 (by decide)] at hq
  exact va_dast hx0 hb hE.1.1 h2.1 h2.2 h3 q0 5 hq rfl (i := 0) (qin_vp (by decide)) d (fun H1 locs1 hP1 hD1 hS1 => k r hr ls H1 locs1 cells slots h1 ⟨hset ▸ hP1, hset ▸ hD1⟩ hS1 h4 h5)
theorem qv_f2d (C : qC p l s m meth c cc nL own g) {x : UInt32} (d : decode cc pc = .ok (.f2d, 1)) (k : qn64 (FP.f2d x) → qV p l e R s m args below meth c g nL Qf o cb sb (pc + 1) L (.inl (.double (FP.f2d x)) :: st) σ) : qV p l e R s m args below meth c g nL Qf (if qn64 (FP.f2d x) then o else none) cb sb pc L (.inl (.float x) :: st) σ := by
  by_cases h : qn64 (FP.f2d x)
  · rw [if_pos h]
    exact fun r hr ls H locs cells slots h1 h2 h3 h4 h5 => lv_f2d C.1 C.2.1 d h (k h r hr ls H locs cells slots h1 h2 h3 h4 h5)
  · rw [if_neg h]; exact qV.no
theorem qv_dcmp (C : qC p l s m meth c cc nL own g) {x y : UInt64} {op : CmpOp} (d : decode cc pc = .ok (.dcmp op, 1)) (k : qV p l e R s m args below meth c g nL Qf o cb sb (pc + 1) L (qI (Op.cmpValue (FP.dcmp x y) op) :: st) σ) : qV p l e R s m args below meth c g nL Qf o cb sb pc L (.inl (.double y) :: .inl (.double x) :: st) σ :=
  fun r hr ls H locs cells slots h1 h2 h3 h4 h5 => lv_dcmp C.1 C.2.1 d (k r hr ls H locs cells slots h1 h2 h3 h4 h5)
theorem qv_fcmp (C : qC p l s m meth c cc nL own g) {x y : UInt32} {op : CmpOp} (d : decode cc pc = .ok (.fcmp op, 1)) (k : qV p l e R s m args below meth c g nL Qf o cb sb (pc + 1) L (qI (Op.cmpValue (FP.fcmp x y) op) :: st) σ) : qV p l e R s m args below meth c g nL Qf o cb sb pc L (.inl (.float y) :: .inl (.float x) :: st) σ :=
  fun r hr ls H locs cells slots h1 h2 h3 h4 h5 => lv_fcmp C.1 C.2.1 d (k r hr ls H locs cells slots h1 h2 h3 h4 h5)
end QJ2
