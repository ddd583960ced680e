/-! the constructors walked (printed by wip/whole/gen/mkinit.py) -/
def zw3 (tf : Nat → ClassId) (h0 : Nat) (u : Nat → Nat) : va_W := [(h0, .inr (1, [.ref (u 0), .int 0])), ((u 0), .inl (tf 1, 414, .inl (fun _ => 0)))]
abbrev ze3 : va_E := (.inr (1, [.null, .int 0]) : va_E)
set_option maxHeartbeats 400000 in
set_option maxRecDepth 100000 in
theorem zc_X3 (l : Launch) (D : va_G) (tf : Nat → ClassId) : zM l yX3_init cX3_init 1 1 1 414 D tf ze3 (fun _ : Nat → Nat => True) (zw3 tf) := by
  refine zM_of (by decide) rfl (by decide) (fun p e s m below meth c h0 A C hin hA Q hend => ?_)
  have C : zC p s m c cX3_init 1 RX3 D tf := C
  refine z_aload C (i := 0) (q := 0) dX3_init_0 rfl rfl ?_
  refine z_obj C zl_X3 zo_obj ⟨Nat.le_of_ble_eq_true rfl, Nat.le_of_ble_eq_true rfl⟩ (by decide) dX3_init_1 ?_
  refine z_aload C (i := 0) (q := 0) dX3_init_4 rfl rfl ?_
  refine z_sipush C 414 dX3_init_5 (by decide) ?_
  refine z_newa C hA (atype := .char) (ty := .char) (t0 := 1) (N' := 414) (a0 := (414, .inl (fun _ => 0))) rfl (fun _ h => by cases h) rfl za_char (fun _ => rfl) (n_ge0 (t := 414) (by decide)) (nI_clamp (n := 414) (by decide)) (Nat.le_of_ble_eq_true rfl) dX3_init_8 (fun q0 => ?_)
  refine zV.as (ws := [(h0, .inr (1, [.null, .int 0])), (q0, .inl (tf 1, 414, .inl (fun _ => 0)))]) rfl ?_
  refine z_putF C (ci := 1) (N := 2) (q0 := 0) (k := 0) ⟨rfl, cl_X3.2.1⟩ tyX3 tyX3_ok nmX3 rfl (by decide) zf_X3_9 rfl rfl hin rfl rfl rfl (Nat.le_of_ble_eq_true rfl) dX3_init_10 ?_
  refine zV.as (ws := [(h0, .inr (1, [.ref q0, .int 0])), (q0, .inl (tf 1, 414, .inl (fun _ => 0)))]) rfl ?_
  exact z_ret hend (fun k => [q0].getD k 0) trivial rfl dX3_init_13
def zw4 (tf : Nat → ClassId) (h0 : Nat) (u : Nat → Nat) : va_W := [(h0, .inr (2, [.ref (u 0), .ref (u 1), .ref (u 2), .ref (u 3), .ref (u 4), .ref (u 5), .ref (u 6), .int 0, .int 0])), ((u 0), .inl (tf 0, 12, .inl (fun _ => 0))), ((u 1), .inl (tf 0, 12, .inl (fun _ => 0))), ((u 2), .inl (tf 0, 12, .inl (fun _ => 0))), ((u 3), .inl (tf 0, 12, .inl (fun _ => 0))), ((u 4), .inl (tf 0, 12, .inl (fun _ => 0))), ((u 5), .inl (tf 0, 12, .inl (fun _ => 0))), ((u 6), .inl (tf 0, 414, .inl (fun _ => 0)))]
abbrev ze4 : va_E := (.inr (2, [.null, .null, .null, .null, .null, .null, .null, .int 0, .int 0]) : va_E)
set_option maxHeartbeats 400000 in
set_option maxRecDepth 100000 in
theorem zc_X4 (l : Launch) (D : va_G) (tf : Nat → ClassId) : zM l yX4_init cX4_init 1 1 7 486 D tf ze4 (fun _ : Nat → Nat => True) (zw4 tf) := by
  refine zM_of (by decide) rfl (by decide) (fun p e s m below meth c h0 A C hin hA Q hend => ?_)
  have C : zC p s m c cX4_init 1 RX4 D tf := C
  refine z_aload C (i := 0) (q := 0) dX4_init_0 rfl rfl ?_
  refine z_obj C zl_X4 zo_obj ⟨Nat.le_of_ble_eq_true rfl, Nat.le_of_ble_eq_true rfl⟩ (by decide) dX4_init_1 ?_
  refine z_aload C (i := 0) (q := 0) dX4_init_4 rfl rfl ?_
  refine z_bipush C 12 dX4_init_5 (by decide) ?_
  refine z_newa C hA (atype := .int) (ty := .int) (t0 := 0) (N' := 12) (a0 := (12, .inl (fun _ => 0))) rfl (fun _ h => by cases h) rfl za_int (fun _ => rfl) (n_ge0 (t := 12) (by decide)) (nI_clamp (n := 12) (by decide)) (Nat.le_of_ble_eq_true rfl) dX4_init_7 (fun q0 => ?_)
  refine zV.as (ws := [(h0, .inr (2, [.null, .null, .null, .null, .null, .null, .null, .int 0, .int 0])), (q0, .inl (tf 0, 12, .inl (fun _ => 0)))]) rfl ?_
  refine z_putF C (ci := 2) (N := 9) (q0 := 0) (k := 0) ⟨rfl, cl_X4.2.1⟩ tyX4 tyX4_ok nmX4 rfl (by decide) zf_X4_9 rfl rfl hin rfl rfl rfl (Nat.le_of_ble_eq_true rfl) dX4_init_9 ?_
  refine zV.as (ws := [(h0, .inr (2, [.ref q0, .null, .null, .null, .null, .null, .null, .int 0, .int 0])), (q0, .inl (tf 0, 12, .inl (fun _ => 0)))]) rfl ?_
  refine z_aload C (i := 0) (q := 0) dX4_init_12 rfl rfl ?_
  refine z_bipush C 12 dX4_init_13 (by decide) ?_
  refine z_newa C hA (atype := .int) (ty := .int) (t0 := 0) (N' := 12) (a0 := (12, .inl (fun _ => 0))) rfl (fun _ h => by cases h) rfl za_int (fun _ => rfl) (n_ge0 (t := 12) (by decide)) (nI_clamp (n := 12) (by decide)) (Nat.le_of_ble_eq_true rfl) dX4_init_15 (fun q1 => ?_)
  refine zV.as (ws := [(h0, .inr (2, [.ref q0, .null, .null, .null, .null, .null, .null, .int 0, .int 0])), (q0, .inl (tf 0, 12, .inl (fun _ => 0))), (q1, .inl (tf 0, 12, .inl (fun _ => 0)))]) rfl ?_
  refine z_putF C (ci := 2) (N := 9) (q0 := 0) (k := 1) ⟨rfl, cl_X4.2.1⟩ tyX4 tyX4_ok nmX4 rfl (by decide) zf_X4_15 rfl rfl hin rfl rfl rfl (Nat.le_of_ble_eq_true rfl) dX4_init_17 ?_
  refine zV.as (ws := [(h0, .inr (2, [.ref q0, .ref q1, .null, .null, .null, .null, .null, .int 0, .int 0])), (q0, .inl (tf 0, 12, .inl (fun _ => 0))), (q1, .inl (tf 0, 12, .inl (fun _ => 0)))]) rfl ?_
  refine z_aload C (i := 0) (q := 0) dX4_init_20 rfl rfl ?_
  refine z_bipush C 12 dX4_init_21 (by decide) ?_
  refine z_newa C hA (atype := .int) (ty := .int) (t0 := 0) (N' := 12) (a0 := (12, .inl (fun _ => 0))) rfl (fun _ h => by cases h) rfl za_int (fun _ => rfl) (n_ge0 (t := 12) (by decide)) (nI_clamp (n := 12) (by decide)) (Nat.le_of_ble_eq_true rfl) dX4_init_23 (fun q2 => ?_)
  refine zV.as (ws := [(h0, .inr (2, [.ref q0, .ref q1, .null, .null, .null, .null, .null, .int 0, .int 0])), (q0, .inl (tf 0, 12, .inl (fun _ => 0))), (q1, .inl (tf 0, 12, .inl (fun _ => 0))), (q2, .inl (tf 0, 12, .inl (fun _ => 0)))]) rfl ?_
  refine z_putF C (ci := 2) (N := 9) (q0 := 0) (k := 2) ⟨rfl, cl_X4.2.1⟩ tyX4 tyX4_ok nmX4 rfl (by decide) zf_X4_18 rfl rfl hin rfl rfl rfl (Nat.le_of_ble_eq_true rfl) dX4_init_25 ?_
  refine zV.as (ws := [(h0, .inr (2, [.ref q0, .ref q1, .ref q2, .null, .null, .null, .null, .int 0, .int 0])), (q0, .inl (tf 0, 12, .inl (fun _ => 0))), (q1, .inl (tf 0, 12, .inl (fun _ => 0))), (q2, .inl (tf 0, 12, .inl (fun _ => 0)))]) rfl ?_
  refine z_aload C (i := 0) (q := 0) dX4_init_28 rfl rfl ?_
  refine z_bipush C 12 dX4_init_29 (by decide) ?_
  refine z_newa C hA (atype := .int) (ty := .int) (t0 := 0) (N' := 12) (a0 := (12, .inl (fun _ => 0))) rfl (fun _ h => by cases h) rfl za_int (fun _ => rfl) (n_ge0 (t := 12) (by decide)) (nI_clamp (n := 12) (by decide)) (Nat.le_of_ble_eq_true rfl) dX4_init_31 (fun q3 => ?_)
  refine zV.as (ws := [(h0, .inr (2, [.ref q0, .ref q1, .ref q2, .null, .null, .null, .null, .int 0, .int 0])), (q0, .inl (tf 0, 12, .inl (fun _ => 0))), (q1, .inl (tf 0, 12, .inl (fun _ => 0))), (q2, .inl (tf 0, 12, .inl (fun _ => 0))), (q3, .inl (tf 0, 12, .inl (fun _ => 0)))]) rfl ?_
  refine z_putF C (ci := 2) (N := 9) (q0 := 0) (k := 3) ⟨rfl, cl_X4.2.1⟩ tyX4 tyX4_ok nmX4 rfl (by decide) zf_X4_21 rfl rfl hin rfl rfl rfl (Nat.le_of_ble_eq_true rfl) dX4_init_33 ?_
  refine zV.as (ws := [(h0, .inr (2, [.ref q0, .ref q1, .ref q2, .ref q3, .null, .null, .null, .int 0, .int 0])), (q0, .inl (tf 0, 12, .inl (fun _ => 0))), (q1, .inl (tf 0, 12, .inl (fun _ => 0))), (q2, .inl (tf 0, 12, .inl (fun _ => 0))), (q3, .inl (tf 0, 12, .inl (fun _ => 0)))]) rfl ?_
  refine z_aload C (i := 0) (q := 0) dX4_init_36 rfl rfl ?_
  refine z_bipush C 12 dX4_init_37 (by decide) ?_
  refine z_newa C hA (atype := .int) (ty := .int) (t0 := 0) (N' := 12) (a0 := (12, .inl (fun _ => 0))) rfl (fun _ h => by cases h) rfl za_int (fun _ => rfl) (n_ge0 (t := 12) (by decide)) (nI_clamp (n := 12) (by decide)) (Nat.le_of_ble_eq_true rfl) dX4_init_39 (fun q4 => ?_)
  refine zV.as (ws := [(h0, .inr (2, [.ref q0, .ref q1, .ref q2, .ref q3, .null, .null, .null, .int 0, .int 0])), (q0, .inl (tf 0, 12, .inl (fun _ => 0))), (q1, .inl (tf 0, 12, .inl (fun _ => 0))), (q2, .inl (tf 0, 12, .inl (fun _ => 0))), (q3, .inl (tf 0, 12, .inl (fun _ => 0))), (q4, .inl (tf 0, 12, .inl (fun _ => 0)))]) rfl ?_
  refine z_putF C (ci := 2) (N := 9) (q0 := 0) (k := 4) ⟨rfl, cl_X4.2.1⟩ tyX4 tyX4_ok nmX4 rfl (by decide) zf_X4_24 rfl rfl hin rfl rfl rfl (Nat.le_of_ble_eq_true rfl) dX4_init_41 ?_
  refine zV.as (ws := [(h0, .inr (2, [.ref q0, .ref q1, .ref q2, .ref q3, .ref q4, .null, .null, .int 0, .int 0])), (q0, .inl (tf 0, 12, .inl (fun _ => 0))), (q1, .inl (tf 0, 12, .inl (fun _ => 0))), (q2, .inl (tf 0, 12, .inl (fun _ => 0))), (q3, .inl (tf 0, 12, .inl (fun _ => 0))), (q4, .inl (tf 0, 12, .inl (fun _ => 0)))]) rfl ?_
  refine z_aload C (i := 0) (q := 0) dX4_init_44 rfl rfl ?_
  refine z_bipush C 12 dX4_init_45 (by decide) ?_
  refine z_newa C hA (atype := .int) (ty := .int) (t0 := 0) (N' := 12) (a0 := (12, .inl (fun _ => 0))) rfl (fun _ h => by cases h) rfl za_int (fun _ => rfl) (n_ge0 (t := 12) (by decide)) (nI_clamp (n := 12) (by decide)) (Nat.le_of_ble_eq_true rfl) dX4_init_47 (fun q5 => ?_)
  refine zV.as (ws := [(h0, .inr (2, [.ref q0, .ref q1, .ref q2, .ref q3, .ref q4, .null, .null, .int 0, .int 0])), (q0, .inl (tf 0, 12, .inl (fun _ => 0))), (q1, .inl (tf 0, 12, .inl (fun _ => 0))), (q2, .inl (tf 0, 12, .inl (fun _ => 0))), (q3, .inl (tf 0, 12, .inl (fun _ => 0))), (q4, .inl (tf 0, 12, .inl (fun _ => 0))), (q5, .inl (tf 0, 12, .inl (fun _ => 0)))]) rfl ?_
  refine z_putF C (ci := 2) (N := 9) (q0 := 0) (k := 5) ⟨rfl, cl_X4.2.1⟩ tyX4 tyX4_ok nmX4 rfl (by decide) zf_X4_27 rfl rfl hin rfl rfl rfl (Nat.le_of_ble_eq_true rfl) dX4_init_49 ?_
  refine zV.as (ws := [(h0, .inr (2, [.ref q0, .ref q1, .ref q2, .ref q3, .ref q4, .ref q5, .null, .int 0, .int 0])), (q0, .inl (tf 0, 12, .inl (fun _ => 0))), (q1, .inl (tf 0, 12, .inl (fun _ => 0))), (q2, .inl (tf 0, 12, .inl (fun _ => 0))), (q3, .inl (tf 0, 12, .inl (fun _ => 0))), (q4, .inl (tf 0, 12, .inl (fun _ => 0))), (q5, .inl (tf 0, 12, .inl (fun _ => 0)))]) rfl ?_
  refine z_aload C (i := 0) (q := 0) dX4_init_52 rfl rfl ?_
  refine z_sipush C 414 dX4_init_53 (by decide) ?_
  refine z_newa C hA (atype := .int) (ty := .int) (t0 := 0) (N' := 414) (a0 := (414, .inl (fun _ => 0))) rfl (fun _ h => by cases h) rfl za_int (fun _ => rfl) (n_ge0 (t := 414) (by decide)) (nI_clamp (n := 414) (by decide)) (Nat.le_of_ble_eq_true rfl) dX4_init_56 (fun q6 => ?_)
  refine zV.as (ws := [(h0, .inr (2, [.ref q0, .ref q1, .ref q2, .ref q3, .ref q4, .ref q5, .null, .int 0, .int 0])), (q0, .inl (tf 0, 12, .inl (fun _ => 0))), (q1, .inl (tf 0, 12, .inl (fun _ => 0))), (q2, .inl (tf 0, 12, .inl (fun _ => 0))), (q3, .inl (tf 0, 12, .inl (fun _ => 0))), (q4, .inl (tf 0, 12, .inl (fun _ => 0))), (q5, .inl (tf 0, 12, .inl (fun _ => 0))), (q6, .inl (tf 0, 414, .inl (fun _ => 0)))]) rfl ?_
  refine z_putF C (ci := 2) (N := 9) (q0 := 0) (k := 6) ⟨rfl, cl_X4.2.1⟩ tyX4 tyX4_ok nmX4 rfl (by decide) zf_X4_30 rfl rfl hin rfl rfl rfl (Nat.le_of_ble_eq_true rfl) dX4_init_58 ?_
  refine zV.as (ws := [(h0, .inr (2, [.ref q0, .ref q1, .ref q2, .ref q3, .ref q4, .ref q5, .ref q6, .int 0, .int 0])), (q0, .inl (tf 0, 12, .inl (fun _ => 0))), (q1, .inl (tf 0, 12, .inl (fun _ => 0))), (q2, .inl (tf 0, 12, .inl (fun _ => 0))), (q3, .inl (tf 0, 12, .inl (fun _ => 0))), (q4, .inl (tf 0, 12, .inl (fun _ => 0))), (q5, .inl (tf 0, 12, .inl (fun _ => 0))), (q6, .inl (tf 0, 414, .inl (fun _ => 0)))]) rfl ?_
  exact z_ret hend (fun k => [q0, q1, q2, q3, q4, q5, q6].getD k 0) trivial rfl dX4_init_61
def zw6 (tf : Nat → ClassId) (h0 : Nat) (u : Nat → Nat) : va_W := [(h0, .inr (4, [.ref (u 0), .ref (u 1), .ref (u 2), .int 0, .int 0, .int 0])), ((u 0), .inl (tf 1, 60, .inl (fun _ => 0))), ((u 1), .inl (tf 3, 60, .inr (.inr (.inr (.inr (fun _ => none)))))), ((u 2), .inl (tf 0, 240, .inl (fun _ => 0)))]
abbrev ze6 : va_E := (.inr (4, [.null, .null, .null, .int 0, .int 0, .int 0]) : va_E)
set_option maxHeartbeats 400000 in
set_option maxRecDepth 100000 in
theorem zc_X6 (l : Launch) (D : va_G) (tf : Nat → ClassId) : zM l yX6_init cX6_init 1 1 3 360 D tf ze6 (fun _ : Nat → Nat => True) (zw6 tf) := by
  refine zM_of (by decide) rfl (by decide) (fun p e s m below meth c h0 A C hin hA Q hend => ?_)
  have C : zC p s m c cX6_init 1 RX6 D tf := C
  refine z_aload C (i := 0) (q := 0) dX6_init_0 rfl rfl ?_
  refine z_obj C zl_X6 zo_obj ⟨Nat.le_of_ble_eq_true rfl, Nat.le_of_ble_eq_true rfl⟩ (by decide) dX6_init_1 ?_
  refine z_aload C (i := 0) (q := 0) dX6_init_4 rfl rfl ?_
  refine z_bipush C 60 dX6_init_5 (by decide) ?_
  refine z_newa C hA (atype := .char) (ty := .char) (t0 := 1) (N' := 60) (a0 := (60, .inl (fun _ => 0))) rfl (fun _ h => by cases h) rfl za_char (fun _ => rfl) (n_ge0 (t := 60) (by decide)) (nI_clamp (n := 60) (by decide)) (Nat.le_of_ble_eq_true rfl) dX6_init_7 (fun q0 => ?_)
  refine zV.as (ws := [(h0, .inr (4, [.null, .null, .null, .int 0, .int 0, .int 0])), (q0, .inl (tf 1, 60, .inl (fun _ => 0)))]) rfl ?_
  refine z_putF C (ci := 4) (N := 6) (q0 := 0) (k := 0) ⟨rfl, cl_X6.2.1⟩ tyX6 tyX6_ok nmX6 rfl (by decide) zf_X6_9 rfl rfl hin rfl rfl rfl (Nat.le_of_ble_eq_true rfl) dX6_init_9 ?_
  refine zV.as (ws := [(h0, .inr (4, [.ref q0, .null, .null, .int 0, .int 0, .int 0])), (q0, .inl (tf 1, 60, .inl (fun _ => 0)))]) rfl ?_
  refine z_aload C (i := 0) (q := 0) dX6_init_12 rfl rfl ?_
  refine z_bipush C 60 dX6_init_13 (by decide) ?_
  refine z_newq C hA (t0 := 3) (N' := 60) rfl zq_1 (fun h => h.2.2.2) (n_ge0 (t := 60) (by decide)) (nI_clamp (n := 60) (by decide)) (Nat.le_of_ble_eq_true rfl) dX6_init_15 (fun q1 => ?_)
  refine zV.as (ws := [(h0, .inr (4, [.ref q0, .null, .null, .int 0, .int 0, .int 0])), (q0, .inl (tf 1, 60, .inl (fun _ => 0))), (q1, .inl (tf 3, 60, .inr (.inr (.inr (.inr (fun _ => none))))))]) rfl ?_
  refine z_putF C (ci := 4) (N := 6) (q0 := 0) (k := 1) ⟨rfl, cl_X6.2.1⟩ tyX6 tyX6_ok nmX6 rfl (by decide) zf_X6_17 rfl rfl hin rfl rfl rfl (Nat.le_of_ble_eq_true rfl) dX6_init_18 ?_
  refine zV.as (ws := [(h0, .inr (4, [.ref q0, .ref q1, .null, .int 0, .int 0, .int 0])), (q0, .inl (tf 1, 60, .inl (fun _ => 0))), (q1, .inl (tf 3, 60, .inr (.inr (.inr (.inr (fun _ => none))))))]) rfl ?_
  refine z_aload C (i := 0) (q := 0) dX6_init_21 rfl rfl ?_
  refine z_sipush C 240 dX6_init_22 (by decide) ?_
  refine z_newa C hA (atype := .int) (ty := .int) (t0 := 0) (N' := 240) (a0 := (240, .inl (fun _ => 0))) rfl (fun _ h => by cases h) rfl za_int (fun _ => rfl) (n_ge0 (t := 240) (by decide)) (nI_clamp (n := 240) (by decide)) (Nat.le_of_ble_eq_true rfl) dX6_init_25 (fun q2 => ?_)
  refine zV.as (ws := [(h0, .inr (4, [.ref q0, .ref q1, .null, .int 0, .int 0, .int 0])), (q0, .inl (tf 1, 60, .inl (fun _ => 0))), (q1, .inl (tf 3, 60, .inr (.inr (.inr (.inr (fun _ => none)))))), (q2, .inl (tf 0, 240, .inl (fun _ => 0)))]) rfl ?_
  refine z_putF C (ci := 4) (N := 6) (q0 := 0) (k := 2) ⟨rfl, cl_X6.2.1⟩ tyX6 tyX6_ok nmX6 rfl (by decide) zf_X6_21 rfl rfl hin rfl rfl rfl (Nat.le_of_ble_eq_true rfl) dX6_init_27 ?_
  refine zV.as (ws := [(h0, .inr (4, [.ref q0, .ref q1, .ref q2, .int 0, .int 0, .int 0])), (q0, .inl (tf 1, 60, .inl (fun _ => 0))), (q1, .inl (tf 3, 60, .inr (.inr (.inr (.inr (fun _ => none)))))), (q2, .inl (tf 0, 240, .inl (fun _ => 0)))]) rfl ?_
  exact z_ret hend (fun k => [q0, q1, q2].getD k 0) trivial rfl dX6_init_30
set_option maxHeartbeats 4000000 in
set_option maxRecDepth 100000 in
/-- fillRow over three cells -/
theorem zc_fill (l : Launch) (D : va_G) (tf : Nat → ClassId) (a sz : Nat) (v : Int32) (f : Nat → Int32) : Met l yX7_fillRow [.code yX7_fillRow cX7_fillRow 3 none] (zrm 0 0 0) (va_Pc [.ref a, .int v] (fun U => U.heap.size = sz ∧ zT D tf U ∧ va_P D qcls [(a, .inl (tf 0, 3, .inl f))] U.heap ∧ va_D (fun _ => True) [(a, .inl (tf 0, 3, .inl f))])) (va_Qv (fun r : Nat → Int32 => r 0 = v ∧ r 1 = v ∧ r 2 = v) (fun r t => va_P D qcls [(a, .inl (tf 0, 3, .inl r))] t.heap ∧ va_D (va_A [(a, .inl (tf 0, 3, .inl f))] sz) [(a, .inl (tf 0, 3, .inl r))]) (va_A [(a, .inl (tf 0, 3, .inl f))] sz)) 0 0 (va_A [(a, .inl (tf 0, 3, .inl f))] sz) := by
  refine Met.ofW (cc := cX7_fillRow) (maxL := 3) (ret := none) (by decide) rfl ?_
  intro p e s m args below meth c s₁ B hml hv
  obtain ⟨rfl, hsz, hT, hP, hD0⟩ := hv
  have hx := B.exec
  have hb := B.bytes
  have hr := B.returns
  have hown : s.vm.findClass RX7 = some m.cls := findClass_of_methodNamed B.named
  have hlocks := B.notSynchronized
  subst hsz
  have hD := hD0.self (sz := s.heap.size)
  have hl := lv_entry ([.ref a, .int v]) (n := 3) (Nat.le_of_ble_eq_true rfl)
  rw [lg_entry_eq]
  generalize (lg_sl ([.ref a, .int v]) ++ List.replicate (3 - (lg_sl ([.ref a, .int v])).length) Slot.unset).toArray = ls at hl ⊢
  have hl : lv_has ls 3 [(0, .ref a), (1, .int v)] := hl
  have C : zC p s m c cX7_fillRow 3 RX7 D tf := ⟨hx, hb, hml, hown, hT⟩
  refine zV.run (LV := [(0, .ref a), (1, .int v)]) (ws := [(a, .inl (tf 0, 3, .inl f))]) (cb := 0) (sb := 0) ?_ hl hP hD (Nat.le_refl _) (Nat.le_refl _)
  · refine z_iconst C 0 dX7_fillRow_0 (by decide) ?_
    refine z_istore C (i := 2) (lv' := [(2, .int 0), (0, .ref a), (1, .int v)]) dX7_fillRow_1 rfl (by decide) rfl ?_
    refine z_iload C (i := 2) (q := 0) dX7_fillRow_2 rfl rfl ?_
    refine z_aload C (i := 0) (q := 1) dX7_fillRow_3 rfl rfl ?_
    refine z_alen C 0 0 (v := 3) rfl rfl rfl dX7_fillRow_4 ?_
    refine z_ge_f C 18 dX7_fillRow_5 (by decide) (by decide) ?_
    refine z_aload C (i := 0) (q := 1) dX7_fillRow_8 rfl rfl ?_
    refine z_iload C (i := 2) (q := 0) dX7_fillRow_9 rfl rfl ?_
    refine z_iload C (i := 1) (q := 2) dX7_fillRow_10 rfl rfl ?_
    refine z_iast C 0 rfl (show ¬ ((0 : Int32) < 0 ∨ 3 ≤ (0 : Int32).toNatClampNeg) by decide) dX7_fillRow_11 ?_
    refine zV.as (ws := [(a, .inl (tf 0, 3, .inl (upd f 0 v)))]) rfl ?_
    refine z_iinc C (k := 0) (x := 0) (v := 1) (lv' := [(2, .int 1), (0, .ref a), (1, .int v)]) dX7_fillRow_12 rfl (by decide) (by decide) rfl ?_
    refine z_goto C 2 dX7_fillRow_15 (by decide) ?_
    refine z_iload C (i := 2) (q := 0) dX7_fillRow_2 rfl rfl ?_
    refine z_aload C (i := 0) (q := 1) dX7_fillRow_3 rfl rfl ?_
    refine z_alen C 0 0 (v := 3) rfl rfl rfl dX7_fillRow_4 ?_
    refine z_ge_f C 18 dX7_fillRow_5 (by decide) (by decide) ?_
    refine z_aload C (i := 0) (q := 1) dX7_fillRow_8 rfl rfl ?_
    refine z_iload C (i := 2) (q := 0) dX7_fillRow_9 rfl rfl ?_
    refine z_iload C (i := 1) (q := 2) dX7_fillRow_10 rfl rfl ?_
    refine z_iast C 0 rfl (show ¬ ((1 : Int32) < 0 ∨ 3 ≤ (1 : Int32).toNatClampNeg) by decide) dX7_fillRow_11 ?_
    refine zV.as (ws := [(a, .inl (tf 0, 3, .inl (upd (upd f 0 v) 1 v)))]) rfl ?_
    refine z_iinc C (k := 0) (x := 1) (v := 2) (lv' := [(2, .int 2), (0, .ref a), (1, .int v)]) dX7_fillRow_12 rfl (by decide) (by decide) rfl ?_
    refine z_goto C 2 dX7_fillRow_15 (by decide) ?_
    refine z_iload C (i := 2) (q := 0) dX7_fillRow_2 rfl rfl ?_
    refine z_aload C (i := 0) (q := 1) dX7_fillRow_3 rfl rfl ?_
    refine z_alen C 0 0 (v := 3) rfl rfl rfl dX7_fillRow_4 ?_
    refine z_ge_f C 18 dX7_fillRow_5 (by decide) (by decide) ?_
    refine z_aload C (i := 0) (q := 1) dX7_fillRow_8 rfl rfl ?_
    refine z_iload C (i := 2) (q := 0) dX7_fillRow_9 rfl rfl ?_
    refine z_iload C (i := 1) (q := 2) dX7_fillRow_10 rfl rfl ?_
    refine z_iast C 0 rfl (show ¬ ((2 : Int32) < 0 ∨ 3 ≤ (2 : Int32).toNatClampNeg) by decide) dX7_fillRow_11 ?_
    refine zV.as (ws := [(a, .inl (tf 0, 3, .inl (upd (upd (upd f 0 v) 1 v) 2 v)))]) rfl ?_
    refine z_iinc C (k := 0) (x := 2) (v := 3) (lv' := [(2, .int 3), (0, .ref a), (1, .int v)]) dX7_fillRow_12 rfl (by decide) (by decide) rfl ?_
    refine z_goto C 2 dX7_fillRow_15 (by decide) ?_
    refine z_iload C (i := 2) (q := 0) dX7_fillRow_2 rfl rfl ?_
    refine z_aload C (i := 0) (q := 1) dX7_fillRow_3 rfl rfl ?_
    refine z_alen C 0 0 (v := 3) rfl rfl rfl dX7_fillRow_4 ?_
    refine z_ge_t C 18 dX7_fillRow_5 (by decide) (by decide) ?_
    intro ls H locs cells slots a1 a2 a3 a4 a5 a6
    refine W.widen (k := 0) (n := 0) (by have h : cells + 0 ≤ 0 := a5; omega) (by have h : slots + 0 ≤ 0 := a6; omega) ?_
    exact W.vret hx hb hr (fun t ht hW => ⟨⟨upd (upd (upd f 0 v) 1 v) 2 v, rfl, ⟨rfl, rfl, rfl⟩, by rw [ht]; exact a2, a3⟩, a4.F ht⟩) a4.2.2 dX7_fillRow_18
def zw5 (tf : Nat → ClassId) (h0 : Nat) (u : (Nat → Nat) × (Nat → Int32)) : va_W := [(h0, .inr (3, [.ref (u.1 0), .ref (u.1 1), .ref (u.1 2), .ref (u.1 3), .ref (u.1 4), .ref (u.1 5), .ref (u.1 6), .int 0, .int 0])), ((u.1 0), .inl (tf 0, 12, .inl (fun _ => 0))), ((u.1 1), .inl (tf 0, 12, .inl (fun _ => 0))), ((u.1 2), .inl (tf 0, 12, .inl (fun _ => 0))), ((u.1 3), .inl (tf 0, 12, .inl (fun _ => 0))), ((u.1 4), .inl (tf 0, 12, .inl (fun _ => 0))), ((u.1 5), .inl (tf 0, 12, .inl (fun _ => 0))), ((u.1 6), .inl (tf 0, 3, .inl u.2))]
abbrev ze5 : va_E := .inr (3, [.null, .null, .null, .null, .null, .null, .null, .int 0, .int 0])
section ZF
variable {p : Program} {l : Launch} {e : Env} {R : Room} {s : State} {m : MethodId} {args : Array Value} {below : List Frame} {meth : Method} {c : Code} {D : va_G} {tf : Nat → ClassId} {A : Nat → Prop} {nL : Nat} {Q : State → Prop} {LV : List (Nat × Value)} {cb sb pc : Nat} {st : List Value} {ws : va_W} {cc : ByteArray} {own : String}
/-- the call of fillRow over the last cell -/
theorem z_fill (C : zC p s m c cc nL RX5 D tf) (hA : ∀ q, s.heap.size ≤ q → A q) {q : Nat} {v : Int32} {f : Nat → Int32} (hR : 1 ≤ R.frames ∧ 62 ≤ R.locals) (hst : (st.map fun v => v.category).sum ≤ 8) (d : decode cc pc = .ok (.invokestatic 33, 3))
    (kk : ∀ r : Nat → Int32, (r 0 = v ∧ r 1 = v ∧ r 2 = v) → zV p l e R s m args below meth c D A nL Q LV cb sb (pc + 3) st (ws ++ [(q, .inl (tf 0, 3, .inl r))])) : zV p l e R s m args below meth c D A nL Q LV cb sb pc (.int v :: .ref q :: st) (ws ++ [(q, .inl (tf 0, 3, .inl f))]) := by
  obtain ⟨hx, hb, hml, hown, hT⟩ := C
  refine z_after (mc := 0) (ms := 0) (a := #[.ref q, .int v]) (w := fun r : Nat → Int32 => [(q, .inl (tf 0, 3, .inl r))]) hA (fun ls H locs cells slots a1 a2 a3 a4 a5 a6 => ?_) kk
  exact va_runSN (As := [.ref q, .int v]) (rest := st) ⟨hx, hb, hml, hown, hT.ws (a := args)⟩ (zc_fill l D tf q H.size v f) ⟨⟨⟨rfl, rfl, hR.1, hR.2, hT.word1 zk_fill.2.2.1, List.mem_singleton.mpr rfl⟩, hT.w zk_fill.2.2.1, hT.w zk_fill.2.2.2, by decide, fun sig hs => by
    have hd : (parseMethodDescriptor yX7_fillRow.desc).map (fun d => d.parameters.length) = some 2 := by decide
    rw [hs] at hd; exact (Option.some.inj hd).symm, hT.w zk_fill.1⟩, hT.w zk_fill.2.1, trivial⟩ ⟨fun a U g mk q => by
    obtain ⟨q0, q1, q2, q3, q4⟩ := q
    exact ⟨q0, q1, q2.warm (by exact State.WarmedH.refl U), q3, q4⟩, fun U hU hW => ⟨rfl, by rw [hU], hT.warm hW, by rw [hU]; exact fun k x hx => a2 (ws.length + k) x (by rw [List.getElem?_append_right (by omega), Nat.add_sub_cancel_left]; exact hx), ⟨fun i j x y hx hy _ => by
    have h1 := (List.getElem?_eq_some_iff.mp hx).1
    have h2 := (List.getElem?_eq_some_iff.mp hy).1
    simp only [List.length_cons, List.length_nil] at h1 h2
    omega, fun _ _ _ => trivial⟩⟩⟩ rfl rfl a1.1 rfl (lv_room hst) d ⟨a5, a6⟩
end ZF
set_option maxHeartbeats 400000 in
set_option maxRecDepth 100000 in
theorem zc_X5 (l : Launch) (D : va_G) (tf : Nat → ClassId) : zM l yX5_init cX5_init 1 1 7 75 D tf ze5 (fun u : (Nat → Nat) × (Nat → Int32) => u.2 0 = 10 ∧ u.2 1 = 10 ∧ u.2 2 = 10) (zw5 tf) := by
  refine zM_of (by decide) rfl (by decide) (fun p e s m below meth c h0 A C hin hA Q hend => ?_)
  have C : zC p s m c cX5_init 1 RX5 D tf := C
  refine z_aload C (i := 0) (q := 0) dX5_init_0 rfl rfl ?_
  refine z_obj C zl_X5 zo_obj ⟨Nat.le_of_ble_eq_true rfl, Nat.le_of_ble_eq_true rfl⟩ (by decide) dX5_init_1 ?_
  refine z_aload C (i := 0) (q := 0) dX5_init_4 rfl rfl ?_
  refine z_bipush C 12 dX5_init_5 (by decide) ?_
  refine z_newa C hA (atype := .int) (ty := .int) (t0 := 0) (N' := 12) (a0 := (12, .inl (fun _ => 0))) rfl (fun _ h => by cases h) rfl za_int (fun _ => rfl) (n_ge0 (t := 12) (by decide)) (nI_clamp (n := 12) (by decide)) (Nat.le_of_ble_eq_true rfl) dX5_init_7 (fun q0 => ?_)
  refine zV.as (ws := [(h0, .inr (3, [.null, .null, .null, .null, .null, .null, .null, .int 0, .int 0])), (q0, .inl (tf 0, 12, .inl (fun _ => 0)))]) rfl ?_
  refine z_putF C (ci := 3) (N := 9) (q0 := 0) (k := 0) ⟨rfl, cl_X5.2.1⟩ tyX5 tyX5_ok nmX5 rfl (by decide) zf_X5_9 rfl rfl hin rfl rfl rfl (Nat.le_of_ble_eq_true rfl) dX5_init_9 ?_
  refine zV.as (ws := [(h0, .inr (3, [.ref q0, .null, .null, .null, .null, .null, .null, .int 0, .int 0])), (q0, .inl (tf 0, 12, .inl (fun _ => 0)))]) rfl ?_
  refine z_aload C (i := 0) (q := 0) dX5_init_12 rfl rfl ?_
  refine z_bipush C 12 dX5_init_13 (by decide) ?_
  refine z_newa C hA (atype := .int) (ty := .int) (t0 := 0) (N' := 12) (a0 := (12, .inl (fun _ => 0))) rfl (fun _ h => by cases h) rfl za_int (fun _ => rfl) (n_ge0 (t := 12) (by decide)) (nI_clamp (n := 12) (by decide)) (Nat.le_of_ble_eq_true rfl) dX5_init_15 (fun q1 => ?_)
  refine zV.as (ws := [(h0, .inr (3, [.ref q0, .null, .null, .null, .null, .null, .null, .int 0, .int 0])), (q0, .inl (tf 0, 12, .inl (fun _ => 0))), (q1, .inl (tf 0, 12, .inl (fun _ => 0)))]) rfl ?_
  refine z_putF C (ci := 3) (N := 9) (q0 := 0) (k := 1) ⟨rfl, cl_X5.2.1⟩ tyX5 tyX5_ok nmX5 rfl (by decide) zf_X5_15 rfl rfl hin rfl rfl rfl (Nat.le_of_ble_eq_true rfl) dX5_init_17 ?_
  refine zV.as (ws := [(h0, .inr (3, [.ref q0, .ref q1, .null, .null, .null, .null, .null, .int 0, .int 0])), (q0, .inl (tf 0, 12, .inl (fun _ => 0))), (q1, .inl (tf 0, 12, .inl (fun _ => 0)))]) rfl ?_
  refine z_aload C (i := 0) (q := 0) dX5_init_20 rfl rfl ?_
  refine z_bipush C 12 dX5_init_21 (by decide) ?_
  refine z_newa C hA (atype := .int) (ty := .int) (t0 := 0) (N' := 12) (a0 := (12, .inl (fun _ => 0))) rfl (fun _ h => by cases h) rfl za_int (fun _ => rfl) (n_ge0 (t := 12) (by decide)) (nI_clamp (n := 12) (by decide)) (Nat.le_of_ble_eq_true rfl) dX5_init_23 (fun q2 => ?_)
  refine zV.as (ws := [(h0, .inr (3, [.ref q0, .ref q1, .null, .null, .null, .null, .null, .int 0, .int 0])), (q0, .inl (tf 0, 12, .inl (fun _ => 0))), (q1, .inl (tf 0, 12, .inl (fun _ => 0))), (q2, .inl (tf 0, 12, .inl (fun _ => 0)))]) rfl ?_
  refine z_putF C (ci := 3) (N := 9) (q0 := 0) (k := 2) ⟨rfl, cl_X5.2.1⟩ tyX5 tyX5_ok nmX5 rfl (by decide) zf_X5_18 rfl rfl hin rfl rfl rfl (Nat.le_of_ble_eq_true rfl) dX5_init_25 ?_
  refine zV.as (ws := [(h0, .inr (3, [.ref q0, .ref q1, .ref q2, .null, .null, .null, .null, .int 0, .int 0])), (q0, .inl (tf 0, 12, .inl (fun _ => 0))), (q1, .inl (tf 0, 12, .inl (fun _ => 0))), (q2, .inl (tf 0, 12, .inl (fun _ => 0)))]) rfl ?_
  refine z_aload C (i := 0) (q := 0) dX5_init_28 rfl rfl ?_
  refine z_bipush C 12 dX5_init_29 (by decide) ?_
  refine z_newa C hA (atype := .int) (ty := .int) (t0 := 0) (N' := 12) (a0 := (12, .inl (fun _ => 0))) rfl (fun _ h => by cases h) rfl za_int (fun _ => rfl) (n_ge0 (t := 12) (by decide)) (nI_clamp (n := 12) (by decide)) (Nat.le_of_ble_eq_true rfl) dX5_init_31 (fun q3 => ?_)
  refine zV.as (ws := [(h0, .inr (3, [.ref q0, .ref q1, .ref q2, .null, .null, .null, .null, .int 0, .int 0])), (q0, .inl (tf 0, 12, .inl (fun _ => 0))), (q1, .inl (tf 0, 12, .inl (fun _ => 0))), (q2, .inl (tf 0, 12, .inl (fun _ => 0))), (q3, .inl (tf 0, 12, .inl (fun _ => 0)))]) rfl ?_
  refine z_putF C (ci := 3) (N := 9) (q0 := 0) (k := 3) ⟨rfl, cl_X5.2.1⟩ tyX5 tyX5_ok nmX5 rfl (by decide) zf_X5_21 rfl rfl hin rfl rfl rfl (Nat.le_of_ble_eq_true rfl) dX5_init_33 ?_
  refine zV.as (ws := [(h0, .inr (3, [.ref q0, .ref q1, .ref q2, .ref q3, .null, .null, .null, .int 0, .int 0])), (q0, .inl (tf 0, 12, .inl (fun _ => 0))), (q1, .inl (tf 0, 12, .inl (fun _ => 0))), (q2, .inl (tf 0, 12, .inl (fun _ => 0))), (q3, .inl (tf 0, 12, .inl (fun _ => 0)))]) rfl ?_
  refine z_aload C (i := 0) (q := 0) dX5_init_36 rfl rfl ?_
  refine z_bipush C 12 dX5_init_37 (by decide) ?_
  refine z_newa C hA (atype := .int) (ty := .int) (t0 := 0) (N' := 12) (a0 := (12, .inl (fun _ => 0))) rfl (fun _ h => by cases h) rfl za_int (fun _ => rfl) (n_ge0 (t := 12) (by decide)) (nI_clamp (n := 12) (by decide)) (Nat.le_of_ble_eq_true rfl) dX5_init_39 (fun q4 => ?_)
  refine zV.as (ws := [(h0, .inr (3, [.ref q0, .ref q1, .ref q2, .ref q3, .null, .null, .null, .int 0, .int 0])), (q0, .inl (tf 0, 12, .inl (fun _ => 0))), (q1, .inl (tf 0, 12, .inl (fun _ => 0))), (q2, .inl (tf 0, 12, .inl (fun _ => 0))), (q3, .inl (tf 0, 12, .inl (fun _ => 0))), (q4, .inl (tf 0, 12, .inl (fun _ => 0)))]) rfl ?_
  refine z_putF C (ci := 3) (N := 9) (q0 := 0) (k := 4) ⟨rfl, cl_X5.2.1⟩ tyX5 tyX5_ok nmX5 rfl (by decide) zf_X5_24 rfl rfl hin rfl rfl rfl (Nat.le_of_ble_eq_true rfl) dX5_init_41 ?_
  refine zV.as (ws := [(h0, .inr (3, [.ref q0, .ref q1, .ref q2, .ref q3, .ref q4, .null, .null, .int 0, .int 0])), (q0, .inl (tf 0, 12, .inl (fun _ => 0))), (q1, .inl (tf 0, 12, .inl (fun _ => 0))), (q2, .inl (tf 0, 12, .inl (fun _ => 0))), (q3, .inl (tf 0, 12, .inl (fun _ => 0))), (q4, .inl (tf 0, 12, .inl (fun _ => 0)))]) rfl ?_
  refine z_aload C (i := 0) (q := 0) dX5_init_44 rfl rfl ?_
  refine z_bipush C 12 dX5_init_45 (by decide) ?_
  refine z_newa C hA (atype := .int) (ty := .int) (t0 := 0) (N' := 12) (a0 := (12, .inl (fun _ => 0))) rfl (fun _ h => by cases h) rfl za_int (fun _ => rfl) (n_ge0 (t := 12) (by decide)) (nI_clamp (n := 12) (by decide)) (Nat.le_of_ble_eq_true rfl) dX5_init_47 (fun q5 => ?_)
  refine zV.as (ws := [(h0, .inr (3, [.ref q0, .ref q1, .ref q2, .ref q3, .ref q4, .null, .null, .int 0, .int 0])), (q0, .inl (tf 0, 12, .inl (fun _ => 0))), (q1, .inl (tf 0, 12, .inl (fun _ => 0))), (q2, .inl (tf 0, 12, .inl (fun _ => 0))), (q3, .inl (tf 0, 12, .inl (fun _ => 0))), (q4, .inl (tf 0, 12, .inl (fun _ => 0))), (q5, .inl (tf 0, 12, .inl (fun _ => 0)))]) rfl ?_
  refine z_putF C (ci := 3) (N := 9) (q0 := 0) (k := 5) ⟨rfl, cl_X5.2.1⟩ tyX5 tyX5_ok nmX5 rfl (by decide) zf_X5_27 rfl rfl hin rfl rfl rfl (Nat.le_of_ble_eq_true rfl) dX5_init_49 ?_
  refine zV.as (ws := [(h0, .inr (3, [.ref q0, .ref q1, .ref q2, .ref q3, .ref q4, .ref q5, .null, .int 0, .int 0])), (q0, .inl (tf 0, 12, .inl (fun _ => 0))), (q1, .inl (tf 0, 12, .inl (fun _ => 0))), (q2, .inl (tf 0, 12, .inl (fun _ => 0))), (q3, .inl (tf 0, 12, .inl (fun _ => 0))), (q4, .inl (tf 0, 12, .inl (fun _ => 0))), (q5, .inl (tf 0, 12, .inl (fun _ => 0)))]) rfl ?_
  refine z_aload C (i := 0) (q := 0) dX5_init_52 rfl rfl ?_
  refine z_iconst C (3) dX5_init_53 (by decide) ?_
  refine z_newa C hA (atype := .int) (ty := .int) (t0 := 0) (N' := 3) (a0 := (3, .inl (fun _ => 0))) rfl (fun _ h => by cases h) rfl za_int (fun _ => rfl) (n_ge0 (t := 3) (by decide)) (nI_clamp (n := 3) (by decide)) (Nat.le_of_ble_eq_true rfl) dX5_init_54 (fun q6 => ?_)
  refine zV.as (ws := [(h0, .inr (3, [.ref q0, .ref q1, .ref q2, .ref q3, .ref q4, .ref q5, .null, .int 0, .int 0])), (q0, .inl (tf 0, 12, .inl (fun _ => 0))), (q1, .inl (tf 0, 12, .inl (fun _ => 0))), (q2, .inl (tf 0, 12, .inl (fun _ => 0))), (q3, .inl (tf 0, 12, .inl (fun _ => 0))), (q4, .inl (tf 0, 12, .inl (fun _ => 0))), (q5, .inl (tf 0, 12, .inl (fun _ => 0))), (q6, .inl (tf 0, 3, .inl (fun _ => 0)))]) rfl ?_
  refine z_putF C (ci := 3) (N := 9) (q0 := 0) (k := 6) ⟨rfl, cl_X5.2.1⟩ tyX5 tyX5_ok nmX5 rfl (by decide) zf_X5_30 rfl rfl hin rfl rfl rfl (Nat.le_of_ble_eq_true rfl) dX5_init_56 ?_
  refine zV.as (ws := [(h0, .inr (3, [.ref q0, .ref q1, .ref q2, .ref q3, .ref q4, .ref q5, .ref q6, .int 0, .int 0])), (q0, .inl (tf 0, 12, .inl (fun _ => 0))), (q1, .inl (tf 0, 12, .inl (fun _ => 0))), (q2, .inl (tf 0, 12, .inl (fun _ => 0))), (q3, .inl (tf 0, 12, .inl (fun _ => 0))), (q4, .inl (tf 0, 12, .inl (fun _ => 0))), (q5, .inl (tf 0, 12, .inl (fun _ => 0))), (q6, .inl (tf 0, 3, .inl (fun _ => 0)))]) rfl ?_
  refine z_aload C (i := 0) (q := 0) dX5_init_59 rfl rfl ?_
  refine z_get C (ci := 3) (N := 9) (q0 := 0) (k := 6) ⟨rfl, cl_X5.2.1⟩ rfl (by decide) zf_X5_30 rfl rfl dX5_init_60 ?_
  refine z_bipush C 10 dX5_init_63 (by decide) ?_
  refine zV.as (ws := [(h0, .inr (3, [.ref q0, .ref q1, .ref q2, .ref q3, .ref q4, .ref q5, .ref q6, .int 0, .int 0])), (q0, .inl (tf 0, 12, .inl (fun _ => 0))), (q1, .inl (tf 0, 12, .inl (fun _ => 0))), (q2, .inl (tf 0, 12, .inl (fun _ => 0))), (q3, .inl (tf 0, 12, .inl (fun _ => 0))), (q4, .inl (tf 0, 12, .inl (fun _ => 0))), (q5, .inl (tf 0, 12, .inl (fun _ => 0)))] ++ [(q6, .inl (tf 0, 3, .inl (fun _ => 0)))]) rfl ?_
  refine z_fill C hA ⟨Nat.le_of_ble_eq_true rfl, Nat.le_of_ble_eq_true rfl⟩ (by decide) dX5_init_65 (fun r hr => ?_)
  exact z_ret hend ((fun k => [q0, q1, q2, q3, q4, q5, q6].getD k 0), r) hr rfl dX5_init_68
