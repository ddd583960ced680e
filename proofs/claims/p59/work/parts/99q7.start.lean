/-! the start: the law's first places (printed by wip/p59/gen/mkend.py) -/
section ZL
variable {p : Program} {l : Launch} {e : Env} {R : Room} {s : State} {m : MethodId} {args : Array Value} {below : List Frame} {meth : Method} {c : Code} {D : va_G} {tf : Nat → ClassId} {A : Nat → Prop} {nL : Nat} {Q : State → Prop} {LV : List (Nat × Value)} {cb sb pc : Nat} {st : List Value} {ws : va_W} {cc : ByteArray} {own : String}
theorem z_astoreN (C : zC p s m c cc nL own D tf) {k : Fin 4} {i x : Nat} {lv' : List (Nat × Value)} (d : decode cc pc = .ok (.astore_n k, 1)) (hi : (k : Nat) = i) (hn : i < nL) (hl : (i, Value.ref x) :: LV.filter (fun q => !(q.1 == i) && !(q.1 + 1 == i && q.2.category == 2)) = lv') (kk : zV p l e R s m args below meth c D A nL Q lv' cb sb (pc + 1) st ws) : zV p l e R s m args below meth c D A nL Q LV cb sb pc (.ref x :: st) ws :=
  fun ls H locs cells slots a1 a2 a3 a4 a5 a6 => lv_astore_n C.1 C.2.1 d hi a1 hn hl (fun ls' b1 => kk ls' H locs cells slots b1 a2 a3 a4 a5 a6)
end ZL
theorem zn_L_16 : Cond.classLink RL 16 RX7 ∈ qWA ∧ Cond.instantiable RX7 13 ∈ qWA ∧ Cond.initialized RX7 ∈ qWA := ⟨qWA_in (List.mem_of_getElem? (i := 92) (by decide +kernel)) rfl, qWA_in (List.mem_of_getElem? (i := 93) (by decide +kernel)) rfl, qWA_in (List.mem_of_getElem? (i := 63) (by decide +kernel)) rfl⟩
theorem zk_L_296 : Cond.methodLink RL 296 yX7_init ∈ qWA := qWA_in (List.mem_of_getElem? (i := 94) (by decide +kernel)) rfl
theorem zo_A : Cond.arrayOver (.array .int) ∈ lw_tbl := List.mem_of_getElem? (i := 1378) (by decide +kernel)
theorem va_AOA.of {A : Array Value} {s : State} (h : (Cond.arrayOver (.array .int)).before A s = true) : va_AOA .int s := by
  have h : (Cond.arrayOver (.array .int)).holds A s none s [] = true := h
  simp only [Cond.holds, Cond.value, beq_iff_eq] at h
  cases hc : s.vm.findClass (FieldType.array .int).toString with
  | none => simp [hc] at h
  | some comp =>
    simp only [hc, Option.bind_some, Option.bind_eq_some_iff, Option.map_eq_some_iff] at h
    obtain ⟨c, hi, k, hk, hb⟩ := h
    obtain ⟨hlt, hp, -⟩ := Array.findIdx?_eq_some_iff_getElem.mp hi
    rw [(Array.getElem?_eq_some_iff.mp hk).2] at hp
    cases hkind : k.kind with
    | array component ty =>
      rw [hkind] at hb hp
      simp at hb hp
      exact ⟨comp, c, k, hc, hk, by rw [hkind, hp, hb.1], hb.2⟩
    | _ => rw [hkind] at hb; simp at hb
/-- the classes and the arrays' classes -/
theorem z_zT {s : State} {b : Nat} (ht : ∀ w ∈ lw_tbl, w.before #[Value.ref b] s = true) : ∃ (D : va_G) (tf : Nat → ClassId), zT D tf s := by
  have hq : ∀ w ∈ qWA, w.before #[Value.ref b] s = true := fun w hw => ht w (List.mem_filter.mp hw).1
  obtain ⟨c0, i0, K0⟩ := u_known hq cl_X2.2.1 (hq _ zn_X7_22.2.1)
  obtain ⟨c1, i1, K1⟩ := u_known hq cl_X3.2.1 (hq _ zn_X7_43.2.1)
  obtain ⟨c2, i2, K2⟩ := u_known hq cl_X4.2.1 (hq _ zn_X7_29.2.1)
  obtain ⟨c3, i3, K3⟩ := u_known hq cl_X5.2.1 (hq _ zn_X7_9.2.1)
  obtain ⟨c4, i4, K4⟩ := u_known hq cl_X6.2.1 (hq _ zn_X7_36.2.1)
  obtain ⟨c5, i5, K5⟩ := u_known hq cl_X7.2.1 (hq _ zn_L_16.2.1)
  obtain ⟨c6, i6, K6⟩ := u_known hq cl_J0.2.1 (hq _ nw_J4_18.2.1)
  obtain ⟨c7, i7, K7⟩ := u_known hq cl_J4.2.1 (hq _ nw_J7_45.2.1)
  obtain ⟨t0, kA0, comp0, hf0, hk0, hd0⟩ := Cond.arrayClass_spec (hq _ za_int)
  obtain ⟨t1, kA1, comp1, hf1, hk1, hd1⟩ := Cond.arrayClass_spec (hq _ za_char)
  obtain ⟨t4, kA4, comp4, hf4, hk4, hd4⟩ := Cond.arrayClass_spec (hq _ za_boolean)
  obtain ⟨t6, kA6, comp6, hf6, hk6, hd6⟩ := Cond.arrayClass_spec (hq _ za_byte)
  obtain ⟨comp5, t5, kA5, hf5c, hk5, hd5, hf5⟩ := va_AOA.of (ht _ zo_A)
  obtain ⟨comp2, t2, kA2, g1, g2, g3, g4, g5⟩ := Cond.arrayOver_spec (ht _ zo_5)
  obtain ⟨comp3, t3, kA3, e1, e2, e3, e4, e5⟩ := Cond.arrayOver_spec (ht _ zo_1)
  refine ⟨(fun n => match n with | 0 => c0 | 1 => c1 | 2 => c2 | 3 => c3 | 4 => c4 | 5 => c5 | 6 => c6 | _ => c7, fun n => match n with | 0 => i0 | 1 => i1 | 2 => i2 | 3 => i3 | 4 => i4 | 5 => i5 | 6 => i6 | _ => i7), fun n => match n with | 0 => t0 | 1 => t1 | 2 => t2 | 3 => t3 | 4 => t4 | 5 => t5 | _ => t6, ⟨fun n q h => ?_, fun n q h => ?_⟩, fun w hw => qok_warm (List.mem_filter.mp hw).2 (State.WarmedH.refl s) (hq w hw), va_AO.of (ht _ zo_5), va_AO.of (ht _ zo_1)⟩
  · rcases n with _ | _ | _ | _ | _ | _ | _ | _ | n
    · cases h; exact K0
    · cases h; exact K1
    · cases h; exact K2
    · cases h; exact K3
    · cases h; exact K4
    · cases h; exact K5
    · cases h; exact K6
    · cases h; exact K7
    · simp at h
  · rcases n with _ | _ | _ | _ | _ | _ | _ | n
    · cases h; exact ⟨fun N z => ⟨(fun k h => by cases h), kA0, hk0, comp0, hd0⟩, hf0⟩
    · cases h; exact ⟨fun N z => ⟨(fun k h => by cases h), kA1, hk1, comp1, hd1⟩, hf1⟩
    · cases h; exact ⟨fun N z => ⟨(fun k h => by cases h), kA2, g3, comp2, g4⟩, kA2, comp2, g3, g4, g1, g5⟩
    · cases h; exact ⟨fun N z => ⟨(fun k h => by cases h), kA3, e3, comp3, e4⟩, kA3, comp3, e3, e4, e1, e5⟩
    · cases h; exact ⟨fun N z => ⟨(fun k h => by cases h), kA4, hk4, comp4, hd4⟩, hf4⟩
    · cases h; exact ⟨fun N z => ⟨(fun k h => by cases h), kA5, hk5, comp5, hd5⟩, hf5⟩
    · cases h; exact ⟨fun N z => ⟨(fun k h => by cases h), kA6, hk6, comp6, hd6⟩, hf6⟩
    · simp at h
section ZL2
variable {p : Program} {l : Launch} {e : Env} {s : State} {m : MethodId} {below : List Frame} {meth : Method} {c : Code} {D : va_G} {tf : Nat → ClassId} {A : Nat → Prop} {Q : State → Prop}
set_option maxHeartbeats 800000 in
set_option maxRecDepth 100000 in
theorem zl_walk {b cb sb : Nat} (C : zC p s m c cL_law 8 RL D tf) (hA : ∀ q, s.heap.size ≤ q → A q) (fin : ∀ (a : Nat) (u : zS7), (zlim u.1.2 ∧ zlim u.2.1.2 ∧ zlim u.2.2.1.2 ∧ (u.2.2.2.1.2.2.length = 8 ∧ ∀ x ∈ u.2.2.2.1.2.2, zlim x.2)) → zV p l e room_1 s m #[Value.ref b] below meth c D A 8 Q [(1, .ref a), (0, .ref b)] cb sb 8 [] (zw7 tf a u)) : zV p l e room_1 s m #[Value.ref b] below meth c D A 8 Q [(0, .ref b)] (cb + 106) (sb + 2237) 0 [] [] := by
  refine zV.less (cb' := cb + 105 + 1) (sb' := sb + 2224 + 13) ?_ (by omega) (by omega)
  refine z_new C hA (ci := 5) (N := 13) ⟨rfl, cl_X7.2.1⟩ tyX7 tyX7_ok zn_L_16 [.null, .null, .null, .null, .null, .null, .null, .null, .int 0, .int 0, .int 0, .int 0, .int 0] zd_X7 dL_law_0 (fun a => ?_)
  refine zV.less (cb' := cb + 105) (sb' := sb + 2224) ?_ (by omega) (by omega)
  refine z_dup C dL_law_3 ?_
  refine z_init C hA (zc_X7 l D tf) zw_X7 (by decide) (by decide) rfl zk_L_296 ⟨Nat.le_of_ble_eq_true rfl, Nat.le_of_ble_eq_true rfl⟩ (Nat.le_of_ble_eq_true rfl) dL_law_4 (fun u hu => ?_)
  refine z_astoreN C (i := 1) (lv' := [(1, .ref a), (0, .ref b)]) dL_law_7 rfl (by decide) rfl ?_
  refine zV.as (ws := zw7 tf a u) (List.nil_append _) ?_
  exact fin a u hu
end ZL2
