/-! Output, History (printed by wip/whole/gen) -/
def f_X3_clear  (s0 : qS) : Option qO :=
  qlet (qu s0 23 0 1 (0 : Int32)) (fun s1 =>
  (some (.inl none, s1)))
set_option maxRecDepth 100000 in
set_option maxHeartbeats 4000000 in
theorem t_X3_clear {g : qG} {l : Launch} (hl : l.stackTraces = false)  (s0 : qS) : qM g l 1 0 0 (.code yX3_clear cX3_clear 1 none) yX3_clear [qR 23 0] s0 (f_X3_clear  s0) := by
  refine qM_of (by decide +kernel) hl (List.forall_mem_cons.mpr ⟨rfl, (fun _ h => absurd h List.not_mem_nil)⟩) (Nat.le_of_ble_eq_true rfl) ?_
  intro p e s m args below meth c C hret ht
  show qV p l e _ s m args below meth c g _ _ _ _ _ 0 [some (qR 23 0)] [] s0
  exact (qv_aload_n C dX3_clear_0 rfl (qv_iconst C (v := (0 : Int32)) dX3_clear_1 (by decide) (qv_putI C fl_X3_15 cl_X3 rfl (by decide) (by decide) (by decide) rfl rfl rfl (qin_nar _) (qin_fits _) dX3_clear_2 (qv_let (fun s1 => (qv_vret C hret dX3_clear_5))))))
def f_X3_write (a1 : Int32) (s0 : qS) : Option qO :=
  (if (s0 23 0 1) < 0 then (some (.inl none, s0)) else
  (if (Int32.ofNat 414) ≤ (s0 23 0 1) then (some (.inl none, s0)) else
  (if qin (s0 23 0 1) 414 ∧ qch a1 then qlet (qu s0 24 0 ((s0 23 0 1)).toNatClampNeg a1) (fun s1 =>
  qlet (qu s1 23 0 1 ((s1 23 0 1) + (1 : Int32))) (fun s2 =>
  (some (.inl none, s2)))) else none)))
set_option maxRecDepth 100000 in
set_option maxHeartbeats 4000000 in
theorem t_X3_write {g : qG} {l : Launch} (hl : l.stackTraces = false) (a1 : Int32) (s0 : qS) : qM g l 1 0 0 (.code yX3_write cX3_write 2 none) yX3_write [qR 23 0, qI a1] s0 (f_X3_write a1 s0) := by
  refine qM_of (by decide +kernel) hl (List.forall_mem_cons.mpr ⟨rfl, (List.forall_mem_cons.mpr ⟨rfl, (fun _ h => absurd h List.not_mem_nil)⟩)⟩) (Nat.le_of_ble_eq_true rfl) ?_
  intro p e s m args below meth c C hret ht
  show qV p l e _ s m args below meth c g _ _ _ _ _ 0 [some (qR 23 0), some (qI a1)] [] s0
  exact (qv_aload_n C dX3_write_0 rfl (qv_getI C fl_X3_15 cl_X3 rfl (by decide) (by decide) (by decide) rfl dX3_write_1 (qv_if_lt C (tgt := 39) dX3_write_4 (by decide) (fun _ => (qv_vret C hret dX3_write_39))
  (fun _ => (qv_aload_n C dX3_write_7 rfl (qv_getI C fl_X3_15 cl_X3 rfl (by decide) (by decide) (by decide) rfl dX3_write_8 (qv_aload_n C dX3_write_11 rfl (qv_getR C (j2 := 0) fl_X3_9 cl_X3 rfl (by decide) (by decide) (by decide) rfl rfl dX3_write_12 (qv_alen C (Or.inr (Or.inl rfl)) rfl (by decide) (by decide) dX3_write_15 (qv_icmp_ge C (tgt := 39) dX3_write_16 (by decide) (fun _ => (qv_vret C hret dX3_write_39))
  (fun _ => (qv_aload_n C dX3_write_19 rfl (qv_getR C (j2 := 0) fl_X3_9 cl_X3 rfl (by decide) (by decide) (by decide) rfl rfl dX3_write_20 (qv_aload_n C dX3_write_23 rfl (qv_getI C fl_X3_15 cl_X3 rfl (by decide) (by decide) (by decide) rfl dX3_write_24 (qv_iload_n C dX3_write_27 rfl (qv_cast C rfl rfl (by decide) (by decide) dX3_write_28 (fun _ _ => (qv_let (fun s1 => (qv_aload_n C dX3_write_29 rfl (qv_dup C dX3_write_30 rfl (qv_getI C fl_X3_15 cl_X3 rfl (by decide) (by decide) (by decide) rfl dX3_write_31 (qv_iconst C (v := (1 : Int32)) dX3_write_34 (by decide) (qv_iadd C dX3_write_35 (qv_putI C fl_X3_15 cl_X3 rfl (by decide) (by decide) (by decide) rfl rfl rfl (qin_nar _) (qin_fits _) dX3_write_36 (qv_let (fun s2 => (qv_vret C hret dX3_write_39)))))))))))))))))))))))))))))
def j_X3_writeNumber_21 (v1 : Int32) (s0 : qS) : Option qO :=
  (if v1 < (10 : Int32) then qbind (f_X3_write ((((48 : Int32) + (v1 - v1 / (10 : Int32) * (10 : Int32))).toUInt32 % 65536).toInt32) s0) (qvV (fun s1 =>
  (some (.inl none, s1)))) qE0 else
  qbind (f_X3_write ((((48 : Int32) + ((v1 / (10 : Int32)) - (v1 / (10 : Int32)) / (10 : Int32) * (10 : Int32))).toUInt32 % 65536).toInt32) s0) (qvV (fun s2 =>
  qbind (f_X3_write ((((48 : Int32) + (v1 - v1 / (10 : Int32) * (10 : Int32))).toUInt32 % 65536).toInt32) s2) (qvV (fun s3 =>
  (some (.inl none, s3)))) qE0)) qE0)
set_option maxRecDepth 100000 in
set_option maxHeartbeats 4000000 in
theorem jt_X3_writeNumber_21 {p : Program} {l : Launch} {e : Env} {s : State} {m : MethodId} {args : Array Value} {below : List Frame} {meth : Method} {c : Code} {g : qG} (hl : l.stackTraces = false) (C : qC p l s m meth c cX3_writeNumber 2 RX3 g) (hret : meth.sig.returnType = none) (ht : ∀ x ∈ c.exceptionTable.toList, False)  (v1 : Int32) (s0 : qS) : qV p l e (qrm 2 0 0) s m args below meth c g 2 (qQf g below args s (qrm 2 0 0)) (j_X3_writeNumber_21  v1 s0) 0 0 21 [some (qR 23 0), some (qI v1)] [] s0 :=
  (qv_iload_n C dX3_writeNumber_21 rfl (qv_bipush C (v := (10 : Int32)) dX3_writeNumber_22 (by decide) (qv_icmp_lt C (tgt := 42) dX3_writeNumber_24 (by decide) (fun _ => (qv_aload_n C dX3_writeNumber_42 rfl (qv_bipush C (v := (48 : Int32)) dX3_writeNumber_43 (by decide) (qv_iload_n C dX3_writeNumber_45 rfl (qv_bipush C (v := (10 : Int32)) dX3_writeNumber_46 (by decide) (qv_irem! C (by decide) dX3_writeNumber_48 (qv_iadd C dX3_writeNumber_49 (qv_i2c C dX3_writeNumber_50 (qv_callV C (rest := []) (cb := 0) (sb := 0) (t_X3_write hl ((((48 : Int32) + (v1 - v1 / (10 : Int32) * (10 : Int32))).toUInt32 % 65536).toInt32) s0) mw_X3_write lk_X3_19 in_X3_write se_X3_write rfl (by decide) (by decide) rfl rfl (Nat.le_of_ble_eq_true rfl) (by decide) dX3_writeNumber_51 rfl (qkV (fun s1 => (qv_vret C hret dX3_writeNumber_54))))))))))))
  (fun _ => (qv_aload_n C dX3_writeNumber_27 rfl (qv_bipush C (v := (48 : Int32)) dX3_writeNumber_28 (by decide) (qv_iload_n C dX3_writeNumber_30 rfl (qv_bipush C (v := (10 : Int32)) dX3_writeNumber_31 (by decide) (qv_idiv! C (by decide) dX3_writeNumber_33 (qv_bipush C (v := (10 : Int32)) dX3_writeNumber_34 (by decide) (qv_irem! C (by decide) dX3_writeNumber_36 (qv_iadd C dX3_writeNumber_37 (qv_i2c C dX3_writeNumber_38 (qv_callV C (rest := []) (cb := 0) (sb := 0) (t_X3_write hl ((((48 : Int32) + ((v1 / (10 : Int32)) - (v1 / (10 : Int32)) / (10 : Int32) * (10 : Int32))).toUInt32 % 65536).toInt32) s0) mw_X3_write lk_X3_19 in_X3_write se_X3_write rfl (by decide) (by decide) rfl rfl (Nat.le_of_ble_eq_true rfl) (by decide) dX3_writeNumber_39 rfl (qkV (fun s2 => (qv_aload_n C dX3_writeNumber_42 rfl (qv_bipush C (v := (48 : Int32)) dX3_writeNumber_43 (by decide) (qv_iload_n C dX3_writeNumber_45 rfl (qv_bipush C (v := (10 : Int32)) dX3_writeNumber_46 (by decide) (qv_irem! C (by decide) dX3_writeNumber_48 (qv_iadd C dX3_writeNumber_49 (qv_i2c C dX3_writeNumber_50 (qv_callV C (rest := []) (cb := 0) (sb := 0) (t_X3_write hl ((((48 : Int32) + (v1 - v1 / (10 : Int32) * (10 : Int32))).toUInt32 % 65536).toInt32) s2) mw_X3_write lk_X3_19 in_X3_write se_X3_write rfl (by decide) (by decide) rfl rfl (Nat.le_of_ble_eq_true rfl) (by decide) dX3_writeNumber_51 rfl (qkV (fun s3 => (qv_vret C hret dX3_writeNumber_54)))))))))))))))))))))))))))
def f_X3_writeNumber (a1 : Int32) (s0 : qS) : Option qO :=
  (if a1 < (100 : Int32) then j_X3_writeNumber_21  a1 s0 else
  qbind (f_X3_write ((((48 : Int32) + ((a1 / (100 : Int32)) - (a1 / (100 : Int32)) / (10 : Int32) * (10 : Int32))).toUInt32 % 65536).toInt32) s0) (qvV (fun s4 =>
  j_X3_writeNumber_21  a1 s4)) qE0)
set_option maxRecDepth 100000 in
set_option maxHeartbeats 4000000 in
theorem t_X3_writeNumber {g : qG} {l : Launch} (hl : l.stackTraces = false) (a1 : Int32) (s0 : qS) : qM g l 2 0 0 (.code yX3_writeNumber cX3_writeNumber 2 none) yX3_writeNumber [qR 23 0, qI a1] s0 (f_X3_writeNumber a1 s0) := by
  refine qM_of (by decide +kernel) hl (List.forall_mem_cons.mpr ⟨rfl, (List.forall_mem_cons.mpr ⟨rfl, (fun _ h => absurd h List.not_mem_nil)⟩)⟩) (Nat.le_of_ble_eq_true rfl) ?_
  intro p e s m args below meth c C hret ht
  show qV p l e _ s m args below meth c g _ _ _ _ _ 0 [some (qR 23 0), some (qI a1)] [] s0
  exact (qv_iload_n C dX3_writeNumber_0 rfl (qv_bipush C (v := (100 : Int32)) dX3_writeNumber_1 (by decide) (qv_icmp_lt C (tgt := 21) dX3_writeNumber_3 (by decide) (fun _ => (qV.weak [true, true] (jt_X3_writeNumber_21 hl C hret ht  a1 s0)))
  (fun _ => (qv_aload_n C dX3_writeNumber_6 rfl (qv_bipush C (v := (48 : Int32)) dX3_writeNumber_7 (by decide) (qv_iload_n C dX3_writeNumber_9 rfl (qv_bipush C (v := (100 : Int32)) dX3_writeNumber_10 (by decide) (qv_idiv! C (by decide) dX3_writeNumber_12 (qv_bipush C (v := (10 : Int32)) dX3_writeNumber_13 (by decide) (qv_irem! C (by decide) dX3_writeNumber_15 (qv_iadd C dX3_writeNumber_16 (qv_i2c C dX3_writeNumber_17 (qv_callV C (rest := []) (cb := 0) (sb := 0) (t_X3_write hl ((((48 : Int32) + ((a1 / (100 : Int32)) - (a1 / (100 : Int32)) / (10 : Int32) * (10 : Int32))).toUInt32 % 65536).toInt32) s0) mw_X3_write lk_X3_19 in_X3_write se_X3_write rfl (by decide) (by decide) rfl rfl (Nat.le_of_ble_eq_true rfl) (by decide) dX3_writeNumber_18 rfl (qkV (fun s4 => (qV.weak [true, true] (jt_X3_writeNumber_21 hl C hret ht  a1 s4))))))))))))))))))
def f_X2_stateAt (a1 : Int32) (s0 : qS) : Option qO :=
  (if a1 < 0 then (some (.inl (some (.inl .null)), s0)) else
  (if (Int32.ofNat 8) ≤ a1 then (some (.inl (some (.inl .null)), s0)) else
  (if qin a1 8 then (some (.inl (some (qR 1 (3 + (a1).toNatClampNeg))), s0)) else none)))
set_option maxRecDepth 100000 in
set_option maxHeartbeats 4000000 in
theorem t_X2_stateAt {g : qG} {l : Launch} (hl : l.stackTraces = false) (a1 : Int32) (s0 : qS) : qM g l 1 0 0 (.code yX2_stateAt cX2_stateAt 2 (some (.object "TaskLeveller$Project"))) yX2_stateAt [qR 9 0, qI a1] s0 (f_X2_stateAt a1 s0) := by
  refine qM_of (by decide +kernel) hl (List.forall_mem_cons.mpr ⟨rfl, (List.forall_mem_cons.mpr ⟨rfl, (fun _ h => absurd h List.not_mem_nil)⟩)⟩) (Nat.le_of_ble_eq_true rfl) ?_
  intro p e s m args below meth c C hret ht
  show qV p l e _ s m args below meth c g _ _ _ _ _ 0 [some (qR 9 0), some (qI a1)] [] s0
  exact (qv_iload_n C dX2_stateAt_0 rfl (qv_if_lt C (tgt := 22) dX2_stateAt_1 (by decide) (fun _ => (qv_null C dX2_stateAt_22 (qv_aret C hret (Or.inl rfl) dX2_stateAt_23)))
  (fun _ => (qv_iload_n C dX2_stateAt_4 rfl (qv_aload_n C dX2_stateAt_5 rfl (qv_getR C (j2 := 0) fl_X2_11 cl_X2 rfl (by decide) (by decide) (by decide) rfl rfl dX2_stateAt_6 (qv_alen C (Or.inr (Or.inr (Or.inl rfl))) rfl (by decide) (by decide) dX2_stateAt_9 (qv_icmp_ge C (tgt := 22) dX2_stateAt_10 (by decide) (fun _ => (qv_null C dX2_stateAt_22 (qv_aret C hret (Or.inl rfl) dX2_stateAt_23)))
  (fun _ => (qv_aload_n C dX2_stateAt_13 rfl (qv_getR C (j2 := 0) fl_X2_11 cl_X2 rfl (by decide) (by decide) (by decide) rfl rfl dX2_stateAt_14 (qv_iload_n C dX2_stateAt_17 rfl (qv_aldS C dX2_stateAt_18 (fun h => (qv_goto C (tgt := 23) dX2_stateAt_19 (by decide) (qv_aret C hret (Or.inr ⟨_, rfl⟩) dX2_stateAt_23))))))))))))))))
def j_X2_keep_18 (j1 : Nat) (s0 : qS) : Option qO :=
  (if (8 : Int32) ≤ ((s0 9 0 2) + (1 : Int32)) then qlet (qu s0 9 0 2 (0 : Int32)) (fun s2 =>
  qlet (qu s2 9 0 1 (qmin ((s2 9 0 1) + (1 : Int32)) (8 : Int32))) (fun s3 =>
  (some (.inl none, s3)))) else
  qlet (qu s0 9 0 2 ((s0 9 0 2) + (1 : Int32))) (fun s4 =>
  qlet (qu s4 9 0 1 (qmin ((s4 9 0 1) + (1 : Int32)) (8 : Int32))) (fun s5 =>
  (some (.inl none, s5)))))
set_option maxRecDepth 100000 in
set_option maxHeartbeats 4000000 in
theorem jt_X2_keep_18 {p : Program} {l : Launch} {e : Env} {s : State} {m : MethodId} {args : Array Value} {below : List Frame} {meth : Method} {c : Code} {g : qG} (hl : l.stackTraces = false) (C : qC p l s m meth c cX2_keep 3 RX2 g) (hret : meth.sig.returnType = none) (ht : ∀ x ∈ c.exceptionTable.toList, False) {j1 : Nat} (hj1 : j1 < 11) (s0 : qS) : qV p l e (qrm 3 0 0) s m args below meth c g 3 (qQf g below args s (qrm 3 0 0)) (j_X2_keep_18 j1  s0) 0 0 18 [some (qR 9 0), none, none] [] s0 :=
  (qv_aload_n C dX2_keep_18 rfl (qv_aload_n C dX2_keep_19 rfl (qv_getI C fl_X2_18 cl_X2 rfl (by decide) (by decide) (by decide) rfl dX2_keep_20 (qv_iconst C (v := (1 : Int32)) dX2_keep_23 (by decide) (qv_iadd C dX2_keep_24 (qv_bipush C (v := (8 : Int32)) dX2_keep_25 (by decide) (qv_icmp_ge C (tgt := 39) dX2_keep_27 (by decide) (fun _ => (qv_iconst C (v := (0 : Int32)) dX2_keep_39 (by decide) (qv_putI C fl_X2_18 cl_X2 rfl (by decide) (by decide) (by decide) rfl rfl rfl (qin_nar _) (qin_fits _) dX2_keep_40 (qv_let (fun s2 => (qv_aload_n C dX2_keep_43 rfl (qv_aload_n C dX2_keep_44 rfl (qv_getI C fl_X2_30 cl_X2 rfl (by decide) (by decide) (by decide) rfl dX2_keep_45 (qv_iconst C (v := (1 : Int32)) dX2_keep_48 (by decide) (qv_iadd C dX2_keep_49 (qv_bipush C (v := (8 : Int32)) dX2_keep_50 (by decide) (qv_mmin C lk_X2_33 mm_min (Nat.le_of_ble_eq_true rfl) (by decide) dX2_keep_52 (qv_putI C fl_X2_30 cl_X2 rfl (by decide) (by decide) (by decide) rfl rfl rfl (qin_nar _) (qin_fits _) dX2_keep_55 (qv_let (fun s3 => (qv_vret C hret dX2_keep_58))))))))))))))))
  (fun _ => (qv_aload_n C dX2_keep_30 rfl (qv_getI C fl_X2_18 cl_X2 rfl (by decide) (by decide) (by decide) rfl dX2_keep_31 (qv_iconst C (v := (1 : Int32)) dX2_keep_34 (by decide) (qv_iadd C dX2_keep_35 (qv_goto C (tgt := 40) dX2_keep_36 (by decide) (qv_putI C fl_X2_18 cl_X2 rfl (by decide) (by decide) (by decide) rfl rfl rfl (qin_nar _) (qin_fits _) dX2_keep_40 (qv_let (fun s4 => (qv_aload_n C dX2_keep_43 rfl (qv_aload_n C dX2_keep_44 rfl (qv_getI C fl_X2_30 cl_X2 rfl (by decide) (by decide) (by decide) rfl dX2_keep_45 (qv_iconst C (v := (1 : Int32)) dX2_keep_48 (by decide) (qv_iadd C dX2_keep_49 (qv_bipush C (v := (8 : Int32)) dX2_keep_50 (by decide) (qv_mmin C lk_X2_33 mm_min (Nat.le_of_ble_eq_true rfl) (by decide) dX2_keep_52 (qv_putI C fl_X2_30 cl_X2 rfl (by decide) (by decide) (by decide) rfl rfl rfl (qin_nar _) (qin_fits _) dX2_keep_55 (qv_let (fun s5 => (qv_vret C hret dX2_keep_58)))))))))))))))))))))))))))
def f_X2_keep (j1 : Nat) (s0 : qS) : Option qO :=
  qbind (f_X2_stateAt (s0 9 0 2) s0) (qvN 1 11 (fun s1 =>
  j_X2_keep_18 j1  s1) (fun jr1 s1 =>
  qbind (f_X5_copyFrom jr1 j1 s1) (qvV (fun s6 =>
  j_X2_keep_18 j1  s6)) qE0)) qE0
set_option maxRecDepth 100000 in
set_option maxHeartbeats 4000000 in
theorem t_X2_keep {g : qG} {l : Launch} (hl : l.stackTraces = false) {j1 : Nat} (hj1 : j1 < 11) (s0 : qS) : qM g l 3 0 0 (.code yX2_keep cX2_keep 3 none) yX2_keep [qR 9 0, qR 1 j1] s0 (f_X2_keep j1 s0) := by
  refine qM_of (by decide +kernel) hl (List.forall_mem_cons.mpr ⟨rfl, (List.forall_mem_cons.mpr ⟨rfl, (fun _ h => absurd h List.not_mem_nil)⟩)⟩) (Nat.le_of_ble_eq_true rfl) ?_
  intro p e s m args below meth c C hret ht
  show qV p l e _ s m args below meth c g _ _ _ _ _ 0 [some (qR 9 0), some (qR 1 j1), none] [] s0
  exact (qv_aload_n C dX2_keep_0 rfl (qv_aload_n C dX2_keep_1 rfl (qv_getI C fl_X2_18 cl_X2 rfl (by decide) (by decide) (by decide) rfl dX2_keep_2 (qv_callV C (rest := []) (cb := 0) (sb := 0) (t_X2_stateAt hl (s0 9 0 2) s0) mw_X2_stateAt lk_X2_22 in_X2_stateAt se_X2_stateAt rfl (by decide) (by decide) rfl rfl (Nat.le_of_ble_eq_true rfl) (by decide) dX2_keep_5 rfl (qkN (fun s1 => (qv_astore_n0 C dX2_keep_8 (by decide) rfl (qv_aload_n0 C dX2_keep_9 rfl (qv_ifnullN C (tgt := 18) dX2_keep_10 (by decide) (qV.weak [true, false, false] (jt_X2_keep_18 hl C hret ht hj1  s1)))))) (fun jr1 hjr1 s1 => (qv_astore_n C dX2_keep_8 (by decide) rfl (qv_aload_n C dX2_keep_9 rfl (qv_ifnullR C dX2_keep_10 (qv_aload_n C dX2_keep_13 rfl (qv_aload_n C dX2_keep_14 rfl (qv_callVN C (rest := []) (cb := 0) (sb := 0) (t_X5_copyFrom hl (show jr1 < 11 from hjr1) (show j1 < 11 from hj1) s1) mw_X5_copyFrom lk_X2_26 in_X5_copyFrom se_X5_copyFrom rfl (by decide) hjr1 rfl rfl (Nat.le_of_ble_eq_true rfl) (by decide) dX2_keep_15 rfl (qkV (fun s6 => (qV.weak [true, false, false] (jt_X2_keep_18 hl C hret ht hj1  s6))))))))))))))))
