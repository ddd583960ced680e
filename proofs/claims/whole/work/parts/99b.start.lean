/-! the start: the law's first places (printed by wip/whole/gen/mk99b.py) -/
section ZL
variable {p : Program} {l : Launch} {e : Env} {R : Room} {s : State} {m : MethodId} {args : Array Value} {below : List Frame} {meth : Method} {c : Code} {D : va_G} {tf : Nat → ClassId} {A : Nat → Prop} {nL : Nat} {Q : State → Prop} {LV : List (Nat × Value)} {cb sb pc : Nat} {st : List Value} {ws : va_W} {cc : ByteArray} {own : String}
theorem z_astoreN (C : zC p s m c cc nL own D tf) {k : Fin 4} {i x : Nat} {lv' : List (Nat × Value)} (d : decode cc pc = .ok (.astore_n k, 1)) (hi : (k : Nat) = i) (hn : i < nL) (hl : (i, Value.ref x) :: LV.filter (fun q => !(q.1 == i) && !(q.1 + 1 == i && q.2.category == 2)) = lv') (kk : zV p l e R s m args below meth c D A nL Q lv' cb sb (pc + 1) st ws) : zV p l e R s m args below meth c D A nL Q LV cb sb pc (.ref x :: st) ws :=
  fun ls H locs cells slots a1 a2 a3 a4 a5 a6 => lv_astore_n C.1 C.2.1 d hi a1 hn hl (fun ls' b1 => kk ls' H locs cells slots b1 a2 a3 a4 a5 a6)
theorem z_astore (C : zC p s m c cc nL own D tf) {i x : Nat} {lv' : List (Nat × Value)} (d : decode cc pc = .ok (.astore i, 2)) (hn : i < nL) (hl : (i, Value.ref x) :: LV.filter (fun q => !(q.1 == i) && !(q.1 + 1 == i && q.2.category == 2)) = lv') (kk : zV p l e R s m args below meth c D A nL Q lv' cb sb (pc + 2) st ws) : zV p l e R s m args below meth c D A nL Q LV cb sb pc (.ref x :: st) ws :=
  fun ls H locs cells slots a1 a2 a3 a4 a5 a6 => lv_astore C.1 C.2.1 d a1 hn hl (fun ls' b1 => kk ls' H locs cells slots b1 a2 a3 a4 a5 a6)
theorem z_istoreW (C : zC p s m c cc nL own D tf) {i : Nat} {x : Int32} {lv' : List (Nat × Value)} (d : decode cc pc = .ok (.istore i, 2)) (hn : i < nL) (hl : (i, Value.int x) :: LV.filter (fun q => !(q.1 == i) && !(q.1 + 1 == i && q.2.category == 2)) = lv') (kk : zV p l e R s m args below meth c D A nL Q lv' cb sb (pc + 2) st ws) : zV p l e R s m args below meth c D A nL Q LV cb sb pc (.int x :: st) ws :=
  fun ls H locs cells slots a1 a2 a3 a4 a5 a6 => lv_istore C.1 C.2.1 d a1 hn hl (fun ls' b1 => kk ls' H locs cells slots b1 a2 a3 a4 a5 a6)
end ZL
theorem zn_L_8 : Cond.classLink RL 8 RX7 ∈ qWA ∧ Cond.instantiable RX7 13 ∈ qWA ∧ Cond.initialized RX7 ∈ qWA := ⟨qWA_in (List.mem_of_getElem? (i := 131) (by decide +kernel)) rfl, qWA_in (List.mem_of_getElem? (i := 132) (by decide +kernel)) rfl, qWA_in (List.mem_of_getElem? (i := 107) (by decide +kernel)) rfl⟩
theorem zk_L_176 : Cond.methodLink RL 176 yX7_init ∈ qWA := qWA_in (List.mem_of_getElem? (i := 133) (by decide +kernel)) rfl
theorem zn_L_177 : Cond.classLink RL 177 RX8 ∈ qWA ∧ Cond.instantiable RX8 23 ∈ qWA ∧ Cond.initialized RX8 ∈ qWA := ⟨qWA_in (List.mem_of_getElem? (i := 1299) (by decide +kernel)) rfl, qWA_in (List.mem_of_getElem? (i := 1300) (by decide +kernel)) rfl, qWA_in (List.mem_of_getElem? (i := 113) (by decide +kernel)) rfl⟩
theorem zk_L_179 : Cond.methodLink RL 179 yX8_init ∈ qWA := qWA_in (List.mem_of_getElem? (i := 1301) (by decide +kernel)) rfl
/-- the classes and the arrays' classes -/
theorem z_zT {s : State} {b : Nat} (ht : ∀ w ∈ lw_tbl, w.before #[Value.ref b] s = true) : ∃ (D : va_G) (tf : Nat → ClassId), zT D tf s := by
  have hq : ∀ w ∈ qWA, w.before #[Value.ref b] s = true := fun w hw => ht w (List.mem_filter.mp hw).1
  obtain ⟨c0, i0, K0⟩ := u_known hq cl_X2.2.1 (hq _ zn_X7_22.2.1)
  obtain ⟨c1, i1, K1⟩ := u_known hq cl_X3.2.1 (hq _ zn_X7_43.2.1)
  obtain ⟨c2, i2, K2⟩ := u_known hq cl_X4.2.1 (hq _ zn_X7_29.2.1)
  obtain ⟨c3, i3, K3⟩ := u_known hq cl_X5.2.1 (hq _ zn_X7_9.2.1)
  obtain ⟨c4, i4, K4⟩ := u_known hq cl_X6.2.1 (hq _ zn_X7_36.2.1)
  obtain ⟨c5, i5, K5⟩ := u_known hq cl_X7.2.1 (hq _ zn_L_8.2.1)
  obtain ⟨c6, i6, K6⟩ := u_known hq cl_X8.2.1 (hq _ zn_L_177.2.1)
  obtain ⟨t0, kA0, comp0, hf0, hk0, hd0⟩ := Cond.arrayClass_spec (hq _ za_int)
  obtain ⟨t1, kA1, comp1, hf1, hk1, hd1⟩ := Cond.arrayClass_spec (hq _ za_char)
  obtain ⟨t4, kA4, comp4, hf4, hk4, hd4⟩ := Cond.arrayClass_spec (hq _ za_long)
  obtain ⟨t5, kA5, comp5, hf5, hk5, hd5⟩ := Cond.arrayClass_spec (hq _ za_double)
  obtain ⟨comp2, t2, kA2, g1, g2, g3, g4, g5⟩ := Cond.arrayOver_spec (ht _ zo_5)
  obtain ⟨comp3, t3, kA3, e1, e2, e3, e4, e5⟩ := Cond.arrayOver_spec (ht _ zo_1)
  refine ⟨(fun n => match n with | 0 => c0 | 1 => c1 | 2 => c2 | 3 => c3 | 4 => c4 | 5 => c5 | _ => c6, fun n => match n with | 0 => i0 | 1 => i1 | 2 => i2 | 3 => i3 | 4 => i4 | 5 => i5 | _ => i6), fun n => match n with | 0 => t0 | 1 => t1 | 2 => t2 | 3 => t3 | 4 => t4 | _ => t5, ⟨fun n q h => ?_, fun n q h => ?_⟩, fun w hw => qok_warm (List.mem_filter.mp hw).2 (State.WarmedH.refl s) (hq w hw), va_AO.of (ht _ zo_5), va_AO.of (ht _ zo_1)⟩
  · rcases n with _ | _ | _ | _ | _ | _ | _ | n
    · cases h; exact K0
    · cases h; exact K1
    · cases h; exact K2
    · cases h; exact K3
    · cases h; exact K4
    · cases h; exact K5
    · cases h; exact K6
    · simp at h
  · rcases n with _ | _ | _ | _ | _ | _ | n
    · cases h; exact ⟨fun N z => ⟨(fun k h => by cases h), kA0, hk0, comp0, hd0⟩, hf0⟩
    · cases h; exact ⟨fun N z => ⟨(fun k h => by cases h), kA1, hk1, comp1, hd1⟩, hf1⟩
    · cases h; exact ⟨fun N z => ⟨(fun k h => by cases h), kA2, g3, comp2, g4⟩, kA2, comp2, g3, g4, g1, g5⟩
    · cases h; exact ⟨fun N z => ⟨(fun k h => by cases h), kA3, e3, comp3, e4⟩, kA3, comp3, e3, e4, e1, e5⟩
    · cases h; exact ⟨fun N z => ⟨(fun k h => by cases h), kA4, hk4, comp4, hd4⟩, hf4⟩
    · cases h; exact ⟨fun N z => ⟨(fun k h => by cases h), kA5, hk5, comp5, hd5⟩, hf5⟩
    · simp at h
abbrev zwl (tf : Nat → ClassId) (a : Nat) (u : zS7) (d : Nat) (v : zS5) (q3 q4 : Nat) : va_W := ((zw7 tf a u ++ zw8 tf d v) ++ [(q3, .inl (tf 4, 1, .inr (.inl (fun _ => 0))))]) ++ [(q4, .inl (tf 5, 1, .inr (.inr (.inr (.inl (fun _ => 0))))))]
section ZL2
variable {p : Program} {l : Launch} {e : Env} {s : State} {m : MethodId} {below : List Frame} {meth : Method} {c : Code} {D : va_G} {tf : Nat → ClassId} {A : Nat → Prop} {Q : State → Prop}
set_option maxHeartbeats 800000 in
set_option maxRecDepth 100000 in
theorem zl_walk {b cb sb : Nat} (C : zC p s m c cL_law 9 RL D tf) (hA : ∀ q, s.heap.size ≤ q → A q) (fin : ∀ (a : Nat) (u : zS7) (d : Nat) (v : zS5) (q3 q4 : Nat), (zlim u.1.2 ∧ zlim u.2.1.2 ∧ zlim u.2.2.1.2 ∧ (u.2.2.2.1.2.2.length = 8 ∧ ∀ x ∈ u.2.2.2.1.2.2, zlim x.2)) → (v.2 0 = 0 ∧ v.2 1 = 0 ∧ v.2 2 = 10 ∧ v.2 3 = 10 ∧ v.2 4 = 10) → zV p l e room_1 s m #[Value.ref b] below meth c D A 9 Q [(5, .int 0), (4, .ref q4), (3, .ref q3), (2, .ref d), (1, .ref a), (0, .ref b)] cb sb 28 [] (zwl tf a u d v q3 q4)) : zV p l e room_1 s m #[Value.ref b] below meth c D A 9 Q [(0, .ref b)] (cb + 120) (sb + 4435) 0 [] [] := by
  refine zV.less (cb' := cb + 14 + 105 + 1) (sb' := sb + 2198 + 2224 + 13) ?_ (by omega) (by omega)
  refine z_new C hA (ci := 5) (N := 13) ⟨rfl, cl_X7.2.1⟩ tyX7 tyX7_ok zn_L_8 [.null, .null, .null, .null, .null, .null, .null, .null, .int 0, .int 0, .int 0, .int 0, .int 0] zd_X7 dL_law_0 (fun a => ?_)
  refine zV.less (cb' := (cb + 14) + 105) (sb' := (sb + 2198) + 2224) ?_ (by omega) (by omega)
  refine z_dup C dL_law_3 ?_
  refine z_init C hA (zc_X7 l D tf) zw_X7 (by decide) (by decide) rfl zk_L_176 ⟨Nat.le_of_ble_eq_true rfl, Nat.le_of_ble_eq_true rfl⟩ (Nat.le_of_ble_eq_true rfl) dL_law_4 (fun u hu => ?_)
  refine z_astoreN C (i := 1) (lv' := [(1, .ref a), (0, .ref b)]) dL_law_7 rfl (by decide) rfl ?_
  refine zV.as (ws := zw7 tf a u) (List.nil_append _) ?_
  refine zV.less (cb' := cb + 2 + 11 + 1) (sb' := sb + 2 + 2173 + 23) ?_ (by omega) (by omega)
  refine z_new C hA (ci := 6) (N := 23) ⟨rfl, cl_X8.2.1⟩ tyX8 tyX8_ok zn_L_177 [.null, .null, .null, .null, .int 0, .int 0, .int 0, .int 0, .int 0, .null, .null, .null, .null, .null, .int 0, .null, .int 0, .int 0, .int 0, .int 0, .int 0, .int 0, .null] zd_X8 dL_law_8 (fun d => ?_)
  refine zV.less (cb' := (cb + 2) + 11) (sb' := (sb + 2) + 2173) ?_ (by omega) (by omega)
  refine z_dup C dL_law_11 ?_
  refine z_init C hA (zc_X8 l D tf) zw_X8 (by decide) (by decide) rfl zk_L_179 ⟨Nat.le_of_ble_eq_true rfl, Nat.le_of_ble_eq_true rfl⟩ (Nat.le_of_ble_eq_true rfl) dL_law_12 (fun v hv => ?_)
  refine z_astoreN C (i := 2) (lv' := [(2, .ref d), (1, .ref a), (0, .ref b)]) dL_law_15 rfl (by decide) rfl ?_
  refine z_iconst C 1 dL_law_16 (by decide) ?_
  refine zV.less (cb' := cb + 1 + 1) (sb' := sb + 1 + 1) ?_ (by omega) (by omega)
  refine z_newa C hA (atype := .long) (ty := .long) (t0 := 4) (N' := 1) (a0 := (1, .inr (.inl (fun _ => 0)))) rfl (fun _ h => by cases h) rfl za_long (fun _ => rfl) (n_ge0 (t := 1) (by decide)) (nI_clamp (n := 1) (by decide)) (Nat.le_of_ble_eq_true rfl) dL_law_17 (fun q3 => ?_)
  refine z_astoreN C (i := 3) (lv' := [(3, .ref q3), (2, .ref d), (1, .ref a), (0, .ref b)]) dL_law_19 rfl (by decide) rfl ?_
  refine z_iconst C 1 dL_law_20 (by decide) ?_
  refine z_newa C hA (atype := .double) (ty := .double) (t0 := 5) (N' := 1) (a0 := (1, .inr (.inr (.inr (.inl (fun _ => 0)))))) rfl (fun _ h => by cases h) rfl za_double (fun _ => rfl) (n_ge0 (t := 1) (by decide)) (nI_clamp (n := 1) (by decide)) (Nat.le_of_ble_eq_true rfl) dL_law_21 (fun q4 => ?_)
  refine z_astore C (i := 4) (lv' := [(4, .ref q4), (3, .ref q3), (2, .ref d), (1, .ref a), (0, .ref b)]) dL_law_23 (by decide) rfl ?_
  refine z_iconst C 0 dL_law_25 (by decide) ?_
  refine z_istoreW C (i := 5) (lv' := [(5, .int 0), (4, .ref q4), (3, .ref q3), (2, .ref d), (1, .ref a), (0, .ref b)]) dL_law_26 (by decide) rfl ?_
  exact fin a u d v q3 q4 hu hv
end ZL2
