/-! Script (printed by wip/whole/gen) -/
def f_X6_append (a1 : Int32) (s0 : qS) : Option qO :=
  (if (s0 19 0 3) < 0 then (some (.inl none, s0)) else
  (if (Int32.ofNat 60) ≤ (s0 19 0 3) then (some (.inl none, s0)) else
  (if qin (s0 19 0 3) 60 ∧ qch a1 then qlet (qu s0 20 0 ((s0 19 0 3)).toNatClampNeg a1) (fun s1 =>
  qlet (qu s1 19 0 3 ((s1 19 0 3) + (1 : Int32))) (fun s2 =>
  (some (.inl none, s2)))) else none)))
set_option maxRecDepth 100000 in
set_option maxHeartbeats 4000000 in
theorem t_X6_append {g : qG} {l : Launch} (hl : l.stackTraces = false) (a1 : Int32) (s0 : qS) : qM g l 1 0 0 (.code yX6_append cX6_append 2 none) yX6_append [qR 19 0, qI a1] s0 (f_X6_append a1 s0) := by
  refine qM_of (by decide +kernel) hl (List.forall_mem_cons.mpr ⟨rfl, (List.forall_mem_cons.mpr ⟨rfl, (fun _ h => absurd h List.not_mem_nil)⟩)⟩) (Nat.le_of_ble_eq_true rfl) ?_
  intro p e s m args below meth c C hret ht
  show qV p l e _ s m args below meth c g _ _ _ _ _ 0 [some (qR 19 0), some (qI a1)] [] s0
  exact (qv_aload_n C dX6_append_0 rfl (qv_getI C fl_X6_25 cl_X6 rfl (by decide) (by decide) (by decide) rfl dX6_append_1 (qv_if_lt C (tgt := 39) dX6_append_4 (by decide) (fun _ => (qv_vret C hret dX6_append_39))
  (fun _ => (qv_aload_n C dX6_append_7 rfl (qv_getI C fl_X6_25 cl_X6 rfl (by decide) (by decide) (by decide) rfl dX6_append_8 (qv_aload_n C dX6_append_11 rfl (qv_getR C (j2 := 0) fl_X6_9 cl_X6 rfl (by decide) (by decide) (by decide) rfl rfl dX6_append_12 (qv_alen C (Or.inr (Or.inl rfl)) rfl (by decide) (by decide) dX6_append_15 (qv_icmp_ge C (tgt := 39) dX6_append_16 (by decide) (fun _ => (qv_vret C hret dX6_append_39))
  (fun _ => (qv_aload_n C dX6_append_19 rfl (qv_getR C (j2 := 0) fl_X6_9 cl_X6 rfl (by decide) (by decide) (by decide) rfl rfl dX6_append_20 (qv_aload_n C dX6_append_23 rfl (qv_getI C fl_X6_25 cl_X6 rfl (by decide) (by decide) (by decide) rfl dX6_append_24 (qv_iload_n C dX6_append_27 rfl (qv_cast C rfl rfl (by decide) (by decide) dX6_append_28 (fun _ _ => (qv_let (fun s1 => (qv_aload_n C dX6_append_29 rfl (qv_dup C dX6_append_30 rfl (qv_getI C fl_X6_25 cl_X6 rfl (by decide) (by decide) (by decide) rfl dX6_append_31 (qv_iconst C (v := (1 : Int32)) dX6_append_34 (by decide) (qv_iadd C dX6_append_35 (qv_putI C fl_X6_25 cl_X6 rfl (by decide) (by decide) (by decide) rfl rfl rfl (qin_nar _) (qin_fits _) dX6_append_36 (qv_let (fun s2 => (qv_vret C hret dX6_append_39)))))))))))))))))))))))))))))
def f_X6_clear  (s0 : qS) : Option qO :=
  qlet (qu s0 19 0 3 (0 : Int32)) (fun s1 =>
  (some (.inl none, s1)))
set_option maxRecDepth 100000 in
set_option maxHeartbeats 4000000 in
theorem t_X6_clear {g : qG} {l : Launch} (hl : l.stackTraces = false)  (s0 : qS) : qM g l 1 0 0 (.code yX6_clear cX6_clear 1 none) yX6_clear [qR 19 0] s0 (f_X6_clear  s0) := by
  refine qM_of (by decide +kernel) hl (List.forall_mem_cons.mpr ⟨rfl, (fun _ h => absurd h List.not_mem_nil)⟩) (Nat.le_of_ble_eq_true rfl) ?_
  intro p e s m args below meth c C hret ht
  show qV p l e _ s m args below meth c g _ _ _ _ _ 0 [some (qR 19 0)] [] s0
  exact (qv_aload_n C dX6_clear_0 rfl (qv_iconst C (v := (0 : Int32)) dX6_clear_1 (by decide) (qv_putI C fl_X6_25 cl_X6 rfl (by decide) (by decide) (by decide) rfl rfl rfl (qin_nar _) (qin_fits _) dX6_clear_2 (qv_let (fun s1 => (qv_vret C hret dX6_clear_5))))))
def f_X6_commandAt (a1 : Int32) (s0 : qS) : Option qO :=
  (if a1 < 0 then (some (.inl (some (.inl .null)), s0)) else
  (if (Int32.ofNat 60) ≤ a1 then (some (.inl (some (.inl .null)), s0)) else
  (if qin a1 60 then (some (.inl (some (qcm (s0 21 0 (a1).toNatClampNeg))), s0)) else none)))
set_option maxRecDepth 100000 in
set_option maxHeartbeats 4000000 in
theorem t_X6_commandAt {g : qG} {l : Launch} (hl : l.stackTraces = false) (a1 : Int32) (s0 : qS) : qM g l 1 0 0 (.code yX6_commandAt cX6_commandAt 2 (some (.object "TaskLeveller$Command"))) yX6_commandAt [qR 19 0, qI a1] s0 (f_X6_commandAt a1 s0) := by
  refine qM_of (by decide +kernel) hl (List.forall_mem_cons.mpr ⟨rfl, (List.forall_mem_cons.mpr ⟨rfl, (fun _ h => absurd h List.not_mem_nil)⟩)⟩) (Nat.le_of_ble_eq_true rfl) ?_
  intro p e s m args below meth c C hret ht
  show qV p l e _ s m args below meth c g _ _ _ _ _ 0 [some (qR 19 0), some (qI a1)] [] s0
  exact (qv_iload_n C dX6_commandAt_0 rfl (qv_if_lt C (tgt := 22) dX6_commandAt_1 (by decide) (fun _ => (qv_null C dX6_commandAt_22 (qv_aret C hret (Or.inl rfl) dX6_commandAt_23)))
  (fun _ => (qv_iload_n C dX6_commandAt_4 rfl (qv_aload_n C dX6_commandAt_5 rfl (qv_getR C (j2 := 0) fl_X6_17 cl_X6 rfl (by decide) (by decide) (by decide) rfl rfl dX6_commandAt_6 (qv_alen C (Or.inr (Or.inr (Or.inr rfl))) rfl (by decide) (by decide) dX6_commandAt_9 (qv_icmp_ge C (tgt := 22) dX6_commandAt_10 (by decide) (fun _ => (qv_null C dX6_commandAt_22 (qv_aret C hret (Or.inl rfl) dX6_commandAt_23)))
  (fun _ => (qv_aload_n C dX6_commandAt_13 rfl (qv_getR C (j2 := 0) fl_X6_17 cl_X6 rfl (by decide) (by decide) (by decide) rfl rfl dX6_commandAt_14 (qv_iload_n C dX6_commandAt_17 rfl (qv_aldC C dX6_commandAt_18 (fun _ => (qv_goto C (tgt := 23) dX6_commandAt_19 (by decide) (qv_aret C hret (qcm_or _) dX6_commandAt_23))))))))))))))))
def f_X6_numberAt (a1 : Int32) (a2 : Int32) (s0 : qS) : Option qO :=
  qbind (f_X7_at 22 0 ((a1 * (4 : Int32)) + a2) s0) (qvI (fun r1 s1 =>
  (some (.inl (some (qI r1)), s1)))) qE0
set_option maxRecDepth 100000 in
set_option maxHeartbeats 4000000 in
theorem t_X6_numberAt {g : qG} {l : Launch} (hl : l.stackTraces = false) (a1 : Int32) (a2 : Int32) (s0 : qS) : qM g l 2 0 0 (.code yX6_numberAt cX6_numberAt 3 (some .int)) yX6_numberAt [qR 19 0, qI a1, qI a2] s0 (f_X6_numberAt a1 a2 s0) := by
  refine qM_of (by decide +kernel) hl (List.forall_mem_cons.mpr ⟨rfl, (List.forall_mem_cons.mpr ⟨rfl, (List.forall_mem_cons.mpr ⟨rfl, (fun _ h => absurd h List.not_mem_nil)⟩)⟩)⟩) (Nat.le_of_ble_eq_true rfl) ?_
  intro p e s m args below meth c C hret ht
  show qV p l e _ s m args below meth c g _ _ _ _ _ 0 [some (qR 19 0), some (qI a1), some (qI a2)] [] s0
  exact (qv_aload_n C dX6_numberAt_0 rfl (qv_getR C (j2 := 0) fl_X6_21 cl_X6 rfl (by decide) (by decide) (by decide) rfl rfl dX6_numberAt_1 (qv_iload_n C dX6_numberAt_4 rfl (qv_iconst C (v := (4 : Int32)) dX6_numberAt_5 (by decide) (qv_imul C dX6_numberAt_6 (qv_iload_n C dX6_numberAt_7 rfl (qv_iadd C dX6_numberAt_8 (qv_callSN C (rest := []) (cb := 0) (sb := 0) (t_X7_at hl rfl (by decide) (by decide) ((a1 * (4 : Int32)) + a2) s0) mw_X7_at lk_X6_29 st_X7_at rfl (Nat.le_of_ble_eq_true rfl) (by decide) dX6_numberAt_9 rfl (qkI (fun r1 s1 => (qv_iret C hret dX6_numberAt_12)))))))))))
def f_X6_isDigitAt (a1 : Int32) (s0 : qS) : Option qO :=
  (if (s0 19 0 3) ≤ a1 then (some (.inl (some (qI (0 : Int32))), s0)) else
  qbind (f_X7_charAt 20 0 a1 s0) (qvI (fun r1 s1 =>
  qbind (f_X7_isWithin r1 (48 : Int32) (57 : Int32) s1) (qvI (fun r2 s2 =>
  (if r2 = 0 then (some (.inl (some (qI (0 : Int32))), s2)) else
  (some (.inl (some (qI (1 : Int32))), s2))))) qE0)) qE0)
set_option maxRecDepth 100000 in
set_option maxHeartbeats 4000000 in
theorem t_X6_isDigitAt {g : qG} {l : Launch} (hl : l.stackTraces = false) (a1 : Int32) (s0 : qS) : qM g l 2 0 0 (.code yX6_isDigitAt cX6_isDigitAt 2 (some .boolean)) yX6_isDigitAt [qR 19 0, qI a1] s0 (f_X6_isDigitAt a1 s0) := by
  refine qM_of (by decide +kernel) hl (List.forall_mem_cons.mpr ⟨rfl, (List.forall_mem_cons.mpr ⟨rfl, (fun _ h => absurd h List.not_mem_nil)⟩)⟩) (Nat.le_of_ble_eq_true rfl) ?_
  intro p e s m args below meth c C hret ht
  show qV p l e _ s m args below meth c g _ _ _ _ _ 0 [some (qR 19 0), some (qI a1)] [] s0
  exact (qv_iload_n C dX6_isDigitAt_0 rfl (qv_aload_n C dX6_isDigitAt_1 rfl (qv_getI C fl_X6_25 cl_X6 rfl (by decide) (by decide) (by decide) rfl dX6_isDigitAt_2 (qv_icmp_ge C (tgt := 30) dX6_isDigitAt_5 (by decide) (fun _ => (qv_iconst C (v := (0 : Int32)) dX6_isDigitAt_30 (by decide) (qv_zret! C hret (qbo_nar (by decide)) dX6_isDigitAt_31)))
  (fun _ => (qv_aload_n C dX6_isDigitAt_8 rfl (qv_getR C (j2 := 0) fl_X6_9 cl_X6 rfl (by decide) (by decide) (by decide) rfl rfl dX6_isDigitAt_9 (qv_iload_n C dX6_isDigitAt_12 rfl (qv_callSN C (rest := []) (cb := 0) (sb := 0) (t_X7_charAt hl rfl (by decide) (by decide) a1 s0) mw_X7_charAt lk_X6_43 st_X7_charAt rfl (Nat.le_of_ble_eq_true rfl) (by decide) dX6_isDigitAt_13 rfl (qkI (fun r1 s1 => (qv_bipush C (v := (48 : Int32)) dX6_isDigitAt_16 (by decide) (qv_bipush C (v := (57 : Int32)) dX6_isDigitAt_18 (by decide) (qv_callSN C (rest := []) (cb := 0) (sb := 0) (t_X7_isWithin hl r1 (48 : Int32) (57 : Int32) s1) mw_X7_isWithin lk_X6_84 st_X7_isWithin rfl (Nat.le_of_ble_eq_true rfl) (by decide) dX6_isDigitAt_20 rfl (qkI (fun r2 s2 => (qv_if_eq C (tgt := 30) dX6_isDigitAt_23 (by decide) (fun _ => (qv_iconst C (v := (0 : Int32)) dX6_isDigitAt_30 (by decide) (qv_zret! C hret (qbo_nar (by decide)) dX6_isDigitAt_31)))
  (fun _ => (qv_iconst C (v := (1 : Int32)) dX6_isDigitAt_26 (by decide) (qv_goto C (tgt := 31) dX6_isDigitAt_27 (by decide) (qv_zret! C hret (qbo_nar (by decide)) dX6_isDigitAt_31)))))))))))))))))))))
def j_X6_readNumber_58 (v1 : Int32) (v3 : Int32) (v4 : Int32) (s0 : qS) : Option qO :=
  qbind (f_X7_put 22 0 (((s0 19 0 4) * (4 : Int32)) + v1) v3 s0) (qvV (fun s1 =>
  (if v4 ≤ 0 then (some (.inl (some (qI (0 : Int32))), s1)) else
  (some (.inl (some (qI (1 : Int32))), s1))))) qE0
set_option maxRecDepth 100000 in
set_option maxHeartbeats 4000000 in
theorem jt_X6_readNumber_58 {p : Program} {l : Launch} {e : Env} {s : State} {m : MethodId} {args : Array Value} {below : List Frame} {meth : Method} {c : Code} {g : qG} (hl : l.stackTraces = false) (C : qC p l s m meth c cX6_readNumber 5 RX6 g) (hret : meth.sig.returnType = (some .boolean)) (ht : ∀ x ∈ c.exceptionTable.toList, False)  (v1 : Int32) (v3 : Int32) (v4 : Int32) (s0 : qS) : qV p l e (qrm 3 0 0) s m args below meth c g 5 (qQf g below args s (qrm 3 0 0)) (j_X6_readNumber_58  v1 v3 v4 s0) 0 0 58 [some (qR 19 0), some (qI v1), none, some (qI v3), some (qI v4)] [] s0 :=
  (qv_aload_n C dX6_readNumber_58 rfl (qv_getR C (j2 := 0) fl_X6_21 cl_X6 rfl (by decide) (by decide) (by decide) rfl rfl dX6_readNumber_59 (qv_aload_n C dX6_readNumber_62 rfl (qv_getI C fl_X6_36 cl_X6 rfl (by decide) (by decide) (by decide) rfl dX6_readNumber_63 (qv_iconst C (v := (4 : Int32)) dX6_readNumber_66 (by decide) (qv_imul C dX6_readNumber_67 (qv_iload_n C dX6_readNumber_68 rfl (qv_iadd C dX6_readNumber_69 (qv_iload_n C dX6_readNumber_70 rfl (qv_callSN C (rest := []) (cb := 0) (sb := 0) (t_X7_put hl rfl (by decide) (by decide) (((s0 19 0 4) * (4 : Int32)) + v1) v3 s0) mw_X7_put lk_X6_80 st_X7_put rfl (Nat.le_of_ble_eq_true rfl) (by decide) dX6_readNumber_71 rfl (qkV (fun s1 => (qv_iload C dX6_readNumber_74 rfl (qv_if_le C (tgt := 83) dX6_readNumber_76 (by decide) (fun _ => (qv_iconst C (v := (0 : Int32)) dX6_readNumber_83 (by decide) (qv_zret! C hret (qbo_nar (by decide)) dX6_readNumber_84)))
  (fun _ => (qv_iconst C (v := (1 : Int32)) dX6_readNumber_79 (by decide) (qv_goto C (tgt := 84) dX6_readNumber_80 (by decide) (qv_zret! C hret (qbo_nar (by decide)) dX6_readNumber_84))))))))))))))))))
def b_X6_readNumber_5 (rk5 : Int32 → Int32 → Int32 → Int32 → qS → Option qO) (v1 : Int32) (v2 : Int32) (v3 : Int32) (v4 : Int32) (s0 : qS) : Option qO :=
  (if v2 ≤ v4 then j_X6_readNumber_58  v1 v3 v4 s0 else
  qbind (f_X6_isDigitAt (s0 19 0 5) s0) (qvI (fun r1 s2 =>
  (if r1 = 0 then j_X6_readNumber_58  v1 v3 v4 s2 else
  qbind (f_X7_charAt 20 0 (s2 19 0 5) s2) (qvI (fun r2 s3 =>
  qlet (qu s3 19 0 5 ((s3 19 0 5) + (1 : Int32))) (fun s4 =>
  rk5 v1 v2 ((((10 : Int32) * v3) + r2) - (48 : Int32)) (v4 + (1 : Int32)) s4))) qE0))) qE0)
def l_X6_readNumber_5 : Nat → Int32 → Int32 → Int32 → Int32 → qS → Option qO
  | 0, _, _, _, _, _ => none
  | n + 1, v1, v2, v3, v4, s0 => b_X6_readNumber_5  (l_X6_readNumber_5  n) v1 v2 v3 v4 s0
set_option maxRecDepth 100000 in
set_option maxHeartbeats 4000000 in
theorem bt_X6_readNumber_5 {p : Program} {l : Launch} {e : Env} {s : State} {m : MethodId} {args : Array Value} {below : List Frame} {meth : Method} {c : Code} {g : qG} (hl : l.stackTraces = false) (C : qC p l s m meth c cX6_readNumber 5 RX6 g) (hret : meth.sig.returnType = (some .boolean)) (ht : ∀ x ∈ c.exceptionTable.toList, False)  (rk5 : Int32 → Int32 → Int32 → Int32 → qS → Option qO) (hrk5 : ∀ (v1 : Int32) (v2 : Int32) (v3 : Int32) (v4 : Int32) (s0 : qS), qV p l e (qrm 3 0 0) s m args below meth c g 5 (qQf g below args s (qrm 3 0 0)) (rk5 v1 v2 v3 v4 s0) 0 0 5 [some (qR 19 0), some (qI v1), some (qI v2), some (qI v3), some (qI v4)] [] s0) (v1 : Int32) (v2 : Int32) (v3 : Int32) (v4 : Int32) (s0 : qS) : qV p l e (qrm 3 0 0) s m args below meth c g 5 (qQf g below args s (qrm 3 0 0)) (b_X6_readNumber_5  rk5 v1 v2 v3 v4 s0) 0 0 5 [some (qR 19 0), some (qI v1), some (qI v2), some (qI v3), some (qI v4)] [] s0 :=
  (qv_iload C dX6_readNumber_5 rfl (qv_iload_n C dX6_readNumber_7 rfl (qv_icmp_ge C (tgt := 58) dX6_readNumber_8 (by decide) (fun _ => (qV.weak [true, true, false, true, true] (jt_X6_readNumber_58 hl C hret ht  v1 v3 v4 s0)))
  (fun _ => (qv_aload_n C dX6_readNumber_11 rfl (qv_aload_n C dX6_readNumber_12 rfl (qv_getI C fl_X6_33 cl_X6 rfl (by decide) (by decide) (by decide) rfl dX6_readNumber_13 (qv_callV C (rest := []) (cb := 0) (sb := 0) (t_X6_isDigitAt hl (s0 19 0 5) s0) mw_X6_isDigitAt lk_X6_76 in_X6_isDigitAt se_X6_isDigitAt rfl (by decide) (by decide) rfl rfl (Nat.le_of_ble_eq_true rfl) (by decide) dX6_readNumber_16 rfl (qkI (fun r1 s2 => (qv_if_eq C (tgt := 58) dX6_readNumber_19 (by decide) (fun _ => (qV.weak [true, true, false, true, true] (jt_X6_readNumber_58 hl C hret ht  v1 v3 v4 s2)))
  (fun _ => (qv_bipush C (v := (10 : Int32)) dX6_readNumber_22 (by decide) (qv_iload_n C dX6_readNumber_24 rfl (qv_imul C dX6_readNumber_25 (qv_aload_n C dX6_readNumber_26 rfl (qv_getR C (j2 := 0) fl_X6_9 cl_X6 rfl (by decide) (by decide) (by decide) rfl rfl dX6_readNumber_27 (qv_aload_n C dX6_readNumber_30 rfl (qv_getI C fl_X6_33 cl_X6 rfl (by decide) (by decide) (by decide) rfl dX6_readNumber_31 (qv_callSN C (rest := [qI ((10 : Int32) * v3)]) (cb := 0) (sb := 0) (t_X7_charAt hl rfl (by decide) (by decide) (s2 19 0 5) s2) mw_X7_charAt lk_X6_43 st_X7_charAt rfl (Nat.le_of_ble_eq_true rfl) (by decide) dX6_readNumber_34 rfl (qkI (fun r2 s3 => (qv_iadd C dX6_readNumber_37 (qv_bipush C (v := (48 : Int32)) dX6_readNumber_38 (by decide) (qv_isub C dX6_readNumber_40 (qv_istore_n C dX6_readNumber_41 (by decide) rfl (qv_aload_n C dX6_readNumber_42 rfl (qv_dup C dX6_readNumber_43 rfl (qv_getI C fl_X6_33 cl_X6 rfl (by decide) (by decide) (by decide) rfl dX6_readNumber_44 (qv_iconst C (v := (1 : Int32)) dX6_readNumber_47 (by decide) (qv_iadd C dX6_readNumber_48 (qv_putI C fl_X6_33 cl_X6 rfl (by decide) (by decide) (by decide) rfl rfl rfl (qin_nar _) (qin_fits _) dX6_readNumber_49 (qv_let (fun s4 => (qv_iinc C (v := (v4 + (1 : Int32))) dX6_readNumber_52 rfl rfl (by decide) rfl (qv_goto C (tgt := 5) dX6_readNumber_55 (by decide) (qV.weak [true, true, true, true, true] (hrk5 v1 v2 ((((10 : Int32) * v3) + r2) - (48 : Int32)) (v4 + (1 : Int32)) s4))))))))))))))))))))))))))))))))))))))
theorem lt_X6_readNumber_5 {p : Program} {l : Launch} {e : Env} {s : State} {m : MethodId} {args : Array Value} {below : List Frame} {meth : Method} {c : Code} {g : qG} (hl : l.stackTraces = false) (C : qC p l s m meth c cX6_readNumber 5 RX6 g) (hret : meth.sig.returnType = (some .boolean)) (ht : ∀ x ∈ c.exceptionTable.toList, False)  : ∀ (n : Nat) (v1 : Int32) (v2 : Int32) (v3 : Int32) (v4 : Int32) (s0 : qS), qV p l e (qrm 3 0 0) s m args below meth c g 5 (qQf g below args s (qrm 3 0 0)) (l_X6_readNumber_5  n v1 v2 v3 v4 s0) 0 0 5 [some (qR 19 0), some (qI v1), some (qI v2), some (qI v3), some (qI v4)] [] s0
  | 0, _, _, _, _, _ => qV.no
  | n + 1, v1, v2, v3, v4, s0 => bt_X6_readNumber_5 hl C hret ht  _ (lt_X6_readNumber_5 hl C hret ht  n) v1 v2 v3 v4 s0
def f_X6_readNumber (a1 : Int32) (a2 : Int32) (s0 : qS) : Option qO :=
  l_X6_readNumber_5  qFU a1 a2 (0 : Int32) (0 : Int32) s0
set_option maxRecDepth 100000 in
set_option maxHeartbeats 4000000 in
theorem t_X6_readNumber {g : qG} {l : Launch} (hl : l.stackTraces = false) (a1 : Int32) (a2 : Int32) (s0 : qS) : qM g l 3 0 0 (.code yX6_readNumber cX6_readNumber 5 (some .boolean)) yX6_readNumber [qR 19 0, qI a1, qI a2] s0 (f_X6_readNumber a1 a2 s0) := by
  refine qM_of (by decide +kernel) hl (List.forall_mem_cons.mpr ⟨rfl, (List.forall_mem_cons.mpr ⟨rfl, (List.forall_mem_cons.mpr ⟨rfl, (fun _ h => absurd h List.not_mem_nil)⟩)⟩)⟩) (Nat.le_of_ble_eq_true rfl) ?_
  intro p e s m args below meth c C hret ht
  show qV p l e _ s m args below meth c g _ _ _ _ _ 0 [some (qR 19 0), some (qI a1), some (qI a2), none, none] [] s0
  exact (qv_iconst C (v := (0 : Int32)) dX6_readNumber_0 (by decide) (qv_istore_n C dX6_readNumber_1 (by decide) rfl (qv_iconst C (v := (0 : Int32)) dX6_readNumber_2 (by decide) (qv_istore C dX6_readNumber_3 (by decide) rfl (qV.weak [true, true, true, true, true] (lt_X6_readNumber_5 hl C hret ht  qFU a1 a2 (0 : Int32) (0 : Int32) s0))))))
def j_X6_follows_33 (j1 : Nat) (rk4 : Int32 → Int32 → qS → Option qO) (v2 : Int32) (v3 : Int32) (v4 : Int32) (s0 : qS) : Option qO :=
  (if v4 = (37 : Int32) then qbind (f_X6_readNumber v2 (2 : Int32) s0) (qvI (fun r3 s3 =>
  (if r3 = 0 then (some (.inl (some (qI (0 : Int32))), s3)) else
  rk4 (v2 + (1 : Int32)) (v3 + (1 : Int32)) s3))) qE0 else
  qbind (f_X6_readNumber v2 (1 : Int32) s0) (qvI (fun r4 s4 =>
  (if r4 = 0 then (some (.inl (some (qI (0 : Int32))), s4)) else
  rk4 (v2 + (1 : Int32)) (v3 + (1 : Int32)) s4))) qE0)
set_option maxRecDepth 100000 in
set_option maxHeartbeats 4000000 in
theorem jt_X6_follows_33 {p : Program} {l : Launch} {e : Env} {s : State} {m : MethodId} {args : Array Value} {below : List Frame} {meth : Method} {c : Code} {g : qG} (hl : l.stackTraces = false) (C : qC p l s m meth c cX6_follows 5 RX6 g) (hret : meth.sig.returnType = (some .boolean)) (ht : ∀ x ∈ c.exceptionTable.toList, False) {j1 : Nat} (hj1 : j1 < 9) (rk4 : Int32 → Int32 → qS → Option qO) (hrk4 : ∀ (v2 : Int32) (v3 : Int32) (s0 : qS), qV p l e (qrm 5 0 0) s m args below meth c g 5 (qQf g below args s (qrm 5 0 0)) (rk4 v2 v3 s0) 0 0 4 [some (qR 19 0), some (qR 42 j1), some (qI v2), some (qI v3), none] [] s0) (v2 : Int32) (v3 : Int32) (v4 : Int32) (s0 : qS) : qV p l e (qrm 5 0 0) s m args below meth c g 5 (qQf g below args s (qrm 5 0 0)) (j_X6_follows_33 j1 rk4 v2 v3 v4 s0) 0 0 33 [some (qR 19 0), some (qR 42 j1), some (qI v2), some (qI v3), some (qI v4)] [] s0 :=
  (qv_aload_n C dX6_follows_33 rfl (qv_iload_n C dX6_follows_34 rfl (qv_iload C dX6_follows_35 rfl (qv_bipush C (v := (37 : Int32)) dX6_follows_37 (by decide) (qv_icmp_ne C (tgt := 46) dX6_follows_39 (by decide) (fun _ => (qv_iconst C (v := (2 : Int32)) dX6_follows_42 (by decide) (qv_goto C (tgt := 47) dX6_follows_43 (by decide) (qv_callV C (rest := []) (cb := 0) (sb := 0) (t_X6_readNumber hl v2 (2 : Int32) s0) mw_X6_readNumber lk_X6_72 in_X6_readNumber se_X6_readNumber rfl (by decide) (by decide) rfl rfl (Nat.le_of_ble_eq_true rfl) (by decide) dX6_follows_47 rfl (qkI (fun r3 s3 => (qv_if_ne C (tgt := 55) dX6_follows_50 (by decide) (fun _ => (qv_iconst C (v := (0 : Int32)) dX6_follows_53 (by decide) (qv_zret! C hret (qbo_nar (by decide)) dX6_follows_54)))
  (fun _ => (qv_iinc C (v := (v2 + (1 : Int32))) dX6_follows_55 rfl rfl (by decide) rfl (qv_goto C (tgt := 103) dX6_follows_58 (by decide) (qv_iinc C (v := (v3 + (1 : Int32))) dX6_follows_103 rfl rfl (by decide) rfl (qv_goto C (tgt := 4) dX6_follows_106 (by decide) (qV.weak [true, true, true, true, false] (hrk4 (v2 + (1 : Int32)) (v3 + (1 : Int32)) s3))))))))))))))
  (fun _ => (qv_iconst C (v := (1 : Int32)) dX6_follows_46 (by decide) (qv_callV C (rest := []) (cb := 0) (sb := 0) (t_X6_readNumber hl v2 (1 : Int32) s0) mw_X6_readNumber lk_X6_72 in_X6_readNumber se_X6_readNumber rfl (by decide) (by decide) rfl rfl (Nat.le_of_ble_eq_true rfl) (by decide) dX6_follows_47 rfl (qkI (fun r4 s4 => (qv_if_ne C (tgt := 55) dX6_follows_50 (by decide) (fun _ => (qv_iconst C (v := (0 : Int32)) dX6_follows_53 (by decide) (qv_zret! C hret (qbo_nar (by decide)) dX6_follows_54)))
  (fun _ => (qv_iinc C (v := (v2 + (1 : Int32))) dX6_follows_55 rfl rfl (by decide) rfl (qv_goto C (tgt := 103) dX6_follows_58 (by decide) (qv_iinc C (v := (v3 + (1 : Int32))) dX6_follows_103 rfl rfl (by decide) rfl (qv_goto C (tgt := 4) dX6_follows_106 (by decide) (qV.weak [true, true, true, true, false] (hrk4 (v2 + (1 : Int32)) (v3 + (1 : Int32)) s4))))))))))))))))))
def b_X6_follows_4 (j1 : Nat) (rk4 : Int32 → Int32 → qS → Option qO) (v2 : Int32) (v3 : Int32) (s0 : qS) : Option qO :=
  qbind (f_J0_length_8abf5 j1 s0) (qvI (fun r1 s1 =>
  (if r1 ≤ v3 then (some (.inl (some (qI (1 : Int32))), s1)) else
  qbind (f_J0_charAt_5068e j1 v3 s1) (qvI (fun r2 s2 =>
  (if r2 = (35 : Int32) then j_X6_follows_33 j1 rk4 v2 v3 r2 s2 else
  (if r2 = (37 : Int32) then j_X6_follows_33 j1 rk4 v2 v3 r2 s2 else
  (if (s2 19 0 3) ≤ (s2 19 0 5) then (some (.inl (some (qI (0 : Int32))), s2)) else
  qbind (f_X7_charAt 20 0 (s2 19 0 5) s2) (qvI (fun r5 s5 =>
  (if r5 = r2 then qlet (qu s5 19 0 5 ((s5 19 0 5) + (1 : Int32))) (fun s6 =>
  rk4 v2 (v3 + (1 : Int32)) s6) else
  (some (.inl (some (qI (0 : Int32))), s5))))) qE0))))) qE0))) qE0
def l_X6_follows_4 (j1 : Nat) : Nat → Int32 → Int32 → qS → Option qO
  | 0, _, _, _ => none
  | n + 1, v2, v3, s0 => b_X6_follows_4 j1 (l_X6_follows_4 j1 n) v2 v3 s0
set_option maxRecDepth 100000 in
set_option maxHeartbeats 4000000 in
theorem bt_X6_follows_4 {p : Program} {l : Launch} {e : Env} {s : State} {m : MethodId} {args : Array Value} {below : List Frame} {meth : Method} {c : Code} {g : qG} (hl : l.stackTraces = false) (C : qC p l s m meth c cX6_follows 5 RX6 g) (hret : meth.sig.returnType = (some .boolean)) (ht : ∀ x ∈ c.exceptionTable.toList, False) {j1 : Nat} (hj1 : j1 < 9) (rk4 : Int32 → Int32 → qS → Option qO) (hrk4 : ∀ (v2 : Int32) (v3 : Int32) (s0 : qS), qV p l e (qrm 5 0 0) s m args below meth c g 5 (qQf g below args s (qrm 5 0 0)) (rk4 v2 v3 s0) 0 0 4 [some (qR 19 0), some (qR 42 j1), some (qI v2), some (qI v3), none] [] s0) (v2 : Int32) (v3 : Int32) (s0 : qS) : qV p l e (qrm 5 0 0) s m args below meth c g 5 (qQf g below args s (qrm 5 0 0)) (b_X6_follows_4 j1 rk4 v2 v3 s0) 0 0 4 [some (qR 19 0), some (qR 42 j1), some (qI v2), some (qI v3), none] [] s0 :=
  (qv_iload_n C dX6_follows_4 rfl (qv_aload_n C dX6_follows_5 rfl (qv_callT C (rest := [qI v3]) (cb := 0) (sb := 0) (t_J0_length_8abf5 hl (show j1 < 9 from hj1) s0) mw_J0_length_8abf5 lk_X6_64 in_J0_length_8abf5 se_J0_length_8abf5 (show j1 < 9 from hj1) rfl (Nat.le_of_ble_eq_true rfl) (by decide) dX6_follows_6 rfl (qkI (fun r1 s1 => (qv_icmp_ge C (tgt := 109) dX6_follows_9 (by decide) (fun _ => (qv_iconst C (v := (1 : Int32)) dX6_follows_109 (by decide) (qv_zret! C hret (qbo_nar (by decide)) dX6_follows_110)))
  (fun _ => (qv_aload_n C dX6_follows_12 rfl (qv_iload_n C dX6_follows_13 rfl (qv_callT C (rest := []) (cb := 0) (sb := 0) (t_J0_charAt_5068e hl (show j1 < 9 from hj1) v3 s1) mw_J0_charAt_5068e lk_X6_69 in_J0_charAt_5068e se_J0_charAt_5068e (show j1 < 9 from hj1) rfl (Nat.le_of_ble_eq_true rfl) (by decide) dX6_follows_14 rfl (qkI (fun r2 s2 => (qv_istore C dX6_follows_17 (by decide) rfl (qv_iload C dX6_follows_19 rfl (qv_bipush C (v := (35 : Int32)) dX6_follows_21 (by decide) (qv_icmp_eq C (tgt := 33) dX6_follows_23 (by decide) (fun _ => (qV.weak [true, true, true, true, true] (jt_X6_follows_33 hl C hret ht hj1 rk4 hrk4 v2 v3 r2 s2)))
  (fun _ => (qv_iload C dX6_follows_26 rfl (qv_bipush C (v := (37 : Int32)) dX6_follows_28 (by decide) (qv_icmp_ne C (tgt := 61) dX6_follows_30 (by decide) (fun _ => (qV.weak [true, true, true, true, true] (jt_X6_follows_33 hl C hret ht hj1 rk4 hrk4 v2 v3 r2 s2)))
  (fun _ => (qv_aload_n C dX6_follows_61 rfl (qv_getI C fl_X6_33 cl_X6 rfl (by decide) (by decide) (by decide) rfl dX6_follows_62 (qv_aload_n C dX6_follows_65 rfl (qv_getI C fl_X6_25 cl_X6 rfl (by decide) (by decide) (by decide) rfl dX6_follows_66 (qv_icmp_ge C (tgt := 101) dX6_follows_69 (by decide) (fun _ => (qv_iconst C (v := (0 : Int32)) dX6_follows_101 (by decide) (qv_zret! C hret (qbo_nar (by decide)) dX6_follows_102)))
  (fun _ => (qv_aload_n C dX6_follows_72 rfl (qv_getR C (j2 := 0) fl_X6_9 cl_X6 rfl (by decide) (by decide) (by decide) rfl rfl dX6_follows_73 (qv_aload_n C dX6_follows_76 rfl (qv_getI C fl_X6_33 cl_X6 rfl (by decide) (by decide) (by decide) rfl dX6_follows_77 (qv_callSN C (rest := []) (cb := 0) (sb := 0) (t_X7_charAt hl rfl (by decide) (by decide) (s2 19 0 5) s2) mw_X7_charAt lk_X6_43 st_X7_charAt rfl (Nat.le_of_ble_eq_true rfl) (by decide) dX6_follows_80 rfl (qkI (fun r5 s5 => (qv_iload C dX6_follows_83 rfl (qv_icmp_ne C (tgt := 101) dX6_follows_85 (by decide) (fun _ => (qv_aload_n C dX6_follows_88 rfl (qv_dup C dX6_follows_89 rfl (qv_getI C fl_X6_33 cl_X6 rfl (by decide) (by decide) (by decide) rfl dX6_follows_90 (qv_iconst C (v := (1 : Int32)) dX6_follows_93 (by decide) (qv_iadd C dX6_follows_94 (qv_putI C fl_X6_33 cl_X6 rfl (by decide) (by decide) (by decide) rfl rfl rfl (qin_nar _) (qin_fits _) dX6_follows_95 (qv_let (fun s6 => (qv_goto C (tgt := 103) dX6_follows_98 (by decide) (qv_iinc C (v := (v3 + (1 : Int32))) dX6_follows_103 rfl rfl (by decide) rfl (qv_goto C (tgt := 4) dX6_follows_106 (by decide) (qV.weak [true, true, true, true, false] (hrk4 v2 (v3 + (1 : Int32)) s6))))))))))))))
  (fun _ => (qv_iconst C (v := (0 : Int32)) dX6_follows_101 (by decide) (qv_zret! C hret (qbo_nar (by decide)) dX6_follows_102)))))))))))))))))))))))))))))))))))))))
theorem lt_X6_follows_4 {p : Program} {l : Launch} {e : Env} {s : State} {m : MethodId} {args : Array Value} {below : List Frame} {meth : Method} {c : Code} {g : qG} (hl : l.stackTraces = false) (C : qC p l s m meth c cX6_follows 5 RX6 g) (hret : meth.sig.returnType = (some .boolean)) (ht : ∀ x ∈ c.exceptionTable.toList, False) {j1 : Nat} (hj1 : j1 < 9) : ∀ (n : Nat) (v2 : Int32) (v3 : Int32) (s0 : qS), qV p l e (qrm 5 0 0) s m args below meth c g 5 (qQf g below args s (qrm 5 0 0)) (l_X6_follows_4 j1 n v2 v3 s0) 0 0 4 [some (qR 19 0), some (qR 42 j1), some (qI v2), some (qI v3), none] [] s0
  | 0, _, _, _ => qV.no
  | n + 1, v2, v3, s0 => bt_X6_follows_4 hl C hret ht hj1 _ (lt_X6_follows_4 hl C hret ht hj1 n) v2 v3 s0
def f_X6_follows (j1 : Nat) (s0 : qS) : Option qO :=
  l_X6_follows_4 j1 qFU (0 : Int32) (0 : Int32) s0
set_option maxRecDepth 100000 in
set_option maxHeartbeats 4000000 in
theorem t_X6_follows {g : qG} {l : Launch} (hl : l.stackTraces = false) {j1 : Nat} (hj1 : j1 < 9) (s0 : qS) : qM g l 5 0 0 (.code yX6_follows cX6_follows 5 (some .boolean)) yX6_follows [qR 19 0, qR 42 j1] s0 (f_X6_follows j1 s0) := by
  refine qM_of (by decide +kernel) hl (List.forall_mem_cons.mpr ⟨rfl, (List.forall_mem_cons.mpr ⟨rfl, (fun _ h => absurd h List.not_mem_nil)⟩)⟩) (Nat.le_of_ble_eq_true rfl) ?_
  intro p e s m args below meth c C hret ht
  show qV p l e _ s m args below meth c g _ _ _ _ _ 0 [some (qR 19 0), some (qR 42 j1), none, none, none] [] s0
  exact (qv_iconst C (v := (0 : Int32)) dX6_follows_0 (by decide) (qv_istore_n C dX6_follows_1 (by decide) rfl (qv_iconst C (v := (0 : Int32)) dX6_follows_2 (by decide) (qv_istore_n C dX6_follows_3 (by decide) rfl (qV.weak [true, true, true, true, false] (lt_X6_follows_4 hl C hret ht hj1 qFU (0 : Int32) (0 : Int32) s0))))))
def b_X6_readCommand_18 (rk18 : Int32 → Int32 → Int32 → Int32 → qS → Option qO) (v1 : Int32) (v2 : Int32) (v4 : Int32) (v5 : Int32) (s0 : qS) : Option qO :=
  (if v4 ≤ v5 then qlet (qu s0 19 0 5 v2) (fun s1 =>
  (some (.inl (some (qI (0 : Int32))), s1))) else
  (if qin v5 8 then qlet (qu s0 19 0 5 v1) (fun s2 =>
  qbind (f_X6_follows ((v5).toNatClampNeg) s2) (qvI (fun r1 s3 =>
  (if r1 = 0 then rk18 v1 (qmax v2 (s3 19 0 5)) v4 (v5 + (1 : Int32)) s3 else
  (if (s3 19 0 4) < 0 then (some (.inl (some (qI (1 : Int32))), s3)) else
  (if (Int32.ofNat 60) ≤ (s3 19 0 4) then (some (.inl (some (qI (1 : Int32))), s3)) else
  (if qin (s3 19 0 4) 60 then qlet (qu s3 21 0 ((s3 19 0 4)).toNatClampNeg (nI ((v5).toNatClampNeg + 1))) (fun s4 =>
  qlet (qu s4 19 0 4 ((s4 19 0 4) + (1 : Int32))) (fun s5 =>
  (some (.inl (some (qI (1 : Int32))), s5)))) else none)))))) qE0) else none))
def l_X6_readCommand_18 : Nat → Int32 → Int32 → Int32 → Int32 → qS → Option qO
  | 0, _, _, _, _, _ => none
  | n + 1, v1, v2, v4, v5, s0 => b_X6_readCommand_18  (l_X6_readCommand_18  n) v1 v2 v4 v5 s0
set_option maxRecDepth 100000 in
set_option maxHeartbeats 4000000 in
theorem bt_X6_readCommand_18 {p : Program} {l : Launch} {e : Env} {s : State} {m : MethodId} {args : Array Value} {below : List Frame} {meth : Method} {c : Code} {g : qG} (hl : l.stackTraces = false) (C : qC p l s m meth c cX6_readCommand 7 RX6 g) (hret : meth.sig.returnType = (some .boolean)) (ht : ∀ x ∈ c.exceptionTable.toList, False)  (rk18 : Int32 → Int32 → Int32 → Int32 → qS → Option qO) (hrk18 : ∀ (v1 : Int32) (v2 : Int32) (v4 : Int32) (v5 : Int32) (s0 : qS), qV p l e (qrm 6 0 0) s m args below meth c g 7 (qQf g below args s (qrm 6 0 0)) (rk18 v1 v2 v4 v5 s0) 0 0 18 [some (qR 19 0), some (qI v1), some (qI v2), some (qR 41 0), some (qI v4), some (qI v5), none] [] s0) (v1 : Int32) (v2 : Int32) (v4 : Int32) (v5 : Int32) (s0 : qS) : qV p l e (qrm 6 0 0) s m args below meth c g 7 (qQf g below args s (qrm 6 0 0)) (b_X6_readCommand_18  rk18 v1 v2 v4 v5 s0) 0 0 18 [some (qR 19 0), some (qI v1), some (qI v2), some (qR 41 0), some (qI v4), some (qI v5), none] [] s0 :=
  (qv_iload C dX6_readCommand_18 rfl (qv_iload C dX6_readCommand_20 rfl (qv_icmp_ge C (tgt := 110) dX6_readCommand_22 (by decide) (fun _ => (qv_aload_n C dX6_readCommand_110 rfl (qv_iload_n C dX6_readCommand_111 rfl (qv_putI C fl_X6_33 cl_X6 rfl (by decide) (by decide) (by decide) rfl rfl rfl (qin_nar _) (qin_fits _) dX6_readCommand_112 (qv_let (fun s1 => (qv_iconst C (v := (0 : Int32)) dX6_readCommand_115 (by decide) (qv_zret! C hret (qbo_nar (by decide)) dX6_readCommand_116))))))))
  (fun _ => (qv_aload_n C dX6_readCommand_25 rfl (qv_iload C dX6_readCommand_26 rfl (qv_ald41 C dX6_readCommand_28 (fun h41 => (qv_astore C dX6_readCommand_29 (by decide) rfl (qv_aload_n C dX6_readCommand_31 rfl (qv_iload_n C dX6_readCommand_32 rfl (qv_putI C fl_X6_33 cl_X6 rfl (by decide) (by decide) (by decide) rfl rfl rfl (qin_nar _) (qin_fits _) dX6_readCommand_33 (qv_let (fun s2 => (qv_aload C dX6_readCommand_36 rfl (qv_ifnullR C dX6_readCommand_38 (qv_aload_n C dX6_readCommand_41 rfl (qv_aload C dX6_readCommand_42 rfl (qv_form C (show (v5).toNatClampNeg < 8 from (q8lt h41)) dX6_readCommand_44 (qv_callV C (rest := []) (cb := 0) (sb := 0) (t_X6_follows hl (show (v5).toNatClampNeg < 9 from (Nat.lt_succ_of_lt (show (v5).toNatClampNeg < 8 from (q8lt h41)))) s2) mw_X6_follows lk_X6_54 in_X6_follows se_X6_follows rfl (by decide) (by decide) rfl rfl (Nat.le_of_ble_eq_true rfl) (by decide) dX6_readCommand_47 rfl (qkI (fun r1 s3 => (qv_if_eq C (tgt := 95) dX6_readCommand_50 (by decide) (fun _ => (qv_iload_n C dX6_readCommand_95 rfl (qv_aload_n C dX6_readCommand_96 rfl (qv_getI C fl_X6_33 cl_X6 rfl (by decide) (by decide) (by decide) rfl dX6_readCommand_97 (qv_mmax C lk_X6_58 mm_max (Nat.le_of_ble_eq_true rfl) (by decide) dX6_readCommand_100 (qv_istore_n C dX6_readCommand_103 (by decide) rfl (qv_iinc C (v := (v5 + (1 : Int32))) dX6_readCommand_104 rfl rfl (by decide) rfl (qv_goto C (tgt := 18) dX6_readCommand_107 (by decide) (qV.weak [true, true, true, true, true, true, false] (hrk18 v1 (qmax v2 (s3 19 0 5)) v4 (v5 + (1 : Int32)) s3))))))))))
  (fun _ => (qv_aload_n C dX6_readCommand_53 rfl (qv_getI C fl_X6_36 cl_X6 rfl (by decide) (by decide) (by decide) rfl dX6_readCommand_54 (qv_if_lt C (tgt := 93) dX6_readCommand_57 (by decide) (fun _ => (qv_iconst C (v := (1 : Int32)) dX6_readCommand_93 (by decide) (qv_zret! C hret (qbo_nar (by decide)) dX6_readCommand_94)))
  (fun _ => (qv_aload_n C dX6_readCommand_60 rfl (qv_getI C fl_X6_36 cl_X6 rfl (by decide) (by decide) (by decide) rfl dX6_readCommand_61 (qv_aload_n C dX6_readCommand_64 rfl (qv_getR C (j2 := 0) fl_X6_17 cl_X6 rfl (by decide) (by decide) (by decide) rfl rfl dX6_readCommand_65 (qv_alen C (Or.inr (Or.inr (Or.inr rfl))) rfl (by decide) (by decide) dX6_readCommand_68 (qv_icmp_ge C (tgt := 93) dX6_readCommand_69 (by decide) (fun _ => (qv_iconst C (v := (1 : Int32)) dX6_readCommand_93 (by decide) (qv_zret! C hret (qbo_nar (by decide)) dX6_readCommand_94)))
  (fun _ => (qv_aload_n C dX6_readCommand_72 rfl (qv_getR C (j2 := 0) fl_X6_17 cl_X6 rfl (by decide) (by decide) (by decide) rfl rfl dX6_readCommand_73 (qv_aload_n C dX6_readCommand_76 rfl (qv_getI C fl_X6_36 cl_X6 rfl (by decide) (by decide) (by decide) rfl dX6_readCommand_77 (qv_aload C dX6_readCommand_80 rfl (qv_astC C (q8lt h41) dX6_readCommand_82 (fun _ => (qv_let (fun s4 => (qv_aload_n C dX6_readCommand_83 rfl (qv_dup C dX6_readCommand_84 rfl (qv_getI C fl_X6_36 cl_X6 rfl (by decide) (by decide) (by decide) rfl dX6_readCommand_85 (qv_iconst C (v := (1 : Int32)) dX6_readCommand_88 (by decide) (qv_iadd C dX6_readCommand_89 (qv_putI C fl_X6_36 cl_X6 rfl (by decide) (by decide) (by decide) rfl rfl rfl (qin_nar _) (qin_fits _) dX6_readCommand_90 (qv_let (fun s5 => (qv_iconst C (v := (1 : Int32)) dX6_readCommand_93 (by decide) (qv_zret! C hret (qbo_nar (by decide)) dX6_readCommand_94))))))))))))))))))))))))))))))))))))))))))))))))))))))
theorem lt_X6_readCommand_18 {p : Program} {l : Launch} {e : Env} {s : State} {m : MethodId} {args : Array Value} {below : List Frame} {meth : Method} {c : Code} {g : qG} (hl : l.stackTraces = false) (C : qC p l s m meth c cX6_readCommand 7 RX6 g) (hret : meth.sig.returnType = (some .boolean)) (ht : ∀ x ∈ c.exceptionTable.toList, False)  : ∀ (n : Nat) (v1 : Int32) (v2 : Int32) (v4 : Int32) (v5 : Int32) (s0 : qS), qV p l e (qrm 6 0 0) s m args below meth c g 7 (qQf g below args s (qrm 6 0 0)) (l_X6_readCommand_18  n v1 v2 v4 v5 s0) 0 0 18 [some (qR 19 0), some (qI v1), some (qI v2), some (qR 41 0), some (qI v4), some (qI v5), none] [] s0
  | 0, _, _, _, _, _ => qV.no
  | n + 1, v1, v2, v4, v5, s0 => bt_X6_readCommand_18 hl C hret ht  _ (lt_X6_readCommand_18 hl C hret ht  n) v1 v2 v4 v5 s0
def f_X6_readCommand  (s0 : qS) : Option qO :=
  l_X6_readCommand_18  qFU (s0 19 0 5) (s0 19 0 5) (8 : Int32) (0 : Int32) s0
set_option maxRecDepth 100000 in
set_option maxHeartbeats 4000000 in
theorem t_X6_readCommand {g : qG} {l : Launch} (hl : l.stackTraces = false)  (s0 : qS) : qM g l 6 0 0 (.code yX6_readCommand cX6_readCommand 7 (some .boolean)) yX6_readCommand [qR 19 0] s0 (f_X6_readCommand  s0) := by
  refine qM_of (by decide +kernel) hl (List.forall_mem_cons.mpr ⟨rfl, (fun _ h => absurd h List.not_mem_nil)⟩) (Nat.le_of_ble_eq_true rfl) ?_
  intro p e s m args below meth c C hret ht
  show qV p l e _ s m args below meth c g _ _ _ _ _ 0 [some (qR 19 0), none, none, none, none, none, none] [] s0
  exact (qv_aload_n C dX6_readCommand_0 rfl (qv_getI C fl_X6_33 cl_X6 rfl (by decide) (by decide) (by decide) rfl dX6_readCommand_1 (qv_istore_n C dX6_readCommand_4 (by decide) rfl (qv_iload_n C dX6_readCommand_5 rfl (qv_istore_n C dX6_readCommand_6 (by decide) rfl (qv_gsC C dX6_readCommand_7 (qv_astore_n C dX6_readCommand_10 (by decide) rfl (qv_aload_n C dX6_readCommand_11 rfl (qv_alen41 C dX6_readCommand_12 (qv_istore C dX6_readCommand_13 (by decide) rfl (qv_iconst C (v := (0 : Int32)) dX6_readCommand_15 (by decide) (qv_istore C dX6_readCommand_16 (by decide) rfl (qV.weak [true, true, true, true, true, true, false] (lt_X6_readCommand_18 hl C hret ht  qFU (s0 19 0 5) (s0 19 0 5) (8 : Int32) (0 : Int32) s0))))))))))))))
def j_X6_read_68 (rk14 : Int32 → Int32 → qS → Option qO) (v2 : Int32) (w0 : Int32) (s0 : qS) : Option qO :=
  (if w0 = 0 then rk14 w0 (v2 + (1 : Int32)) s0 else
  qlet (qu s0 19 0 5 ((s0 19 0 5) + (1 : Int32))) (fun s4 =>
  rk14 w0 (v2 + (1 : Int32)) s4))
set_option maxRecDepth 100000 in
set_option maxHeartbeats 4000000 in
theorem jt_X6_read_68 {p : Program} {l : Launch} {e : Env} {s : State} {m : MethodId} {args : Array Value} {below : List Frame} {meth : Method} {c : Code} {g : qG} (hl : l.stackTraces = false) (C : qC p l s m meth c cX6_read 3 RX6 g) (hret : meth.sig.returnType = (some .boolean)) (ht : ∀ x ∈ c.exceptionTable.toList, False)  (rk14 : Int32 → Int32 → qS → Option qO) (hrk14 : ∀ (v1 : Int32) (v2 : Int32) (s0 : qS), qV p l e (qrm 7 0 0) s m args below meth c g 3 (qQf g below args s (qrm 7 0 0)) (rk14 v1 v2 s0) 0 0 14 [some (qR 19 0), some (qI v1), some (qI v2)] [] s0) (v2 : Int32) (w0 : Int32) (s0 : qS) : qV p l e (qrm 7 0 0) s m args below meth c g 3 (qQf g below args s (qrm 7 0 0)) (j_X6_read_68  rk14 v2 w0 s0) 0 0 68 [some (qR 19 0), none, some (qI v2)] [qI w0] s0 :=
  (qv_istore_n C dX6_read_68 (by decide) rfl (qv_iload_n C dX6_read_69 rfl (qv_if_eq C (tgt := 83) dX6_read_70 (by decide) (fun _ => (qv_iinc C (v := (v2 + (1 : Int32))) dX6_read_83 rfl rfl (by decide) rfl (qv_goto C (tgt := 14) dX6_read_86 (by decide) (qV.weak [true, true, true] (hrk14 w0 (v2 + (1 : Int32)) s0)))))
  (fun _ => (qv_aload_n C dX6_read_73 rfl (qv_dup C dX6_read_74 rfl (qv_getI C fl_X6_33 cl_X6 rfl (by decide) (by decide) (by decide) rfl dX6_read_75 (qv_iconst C (v := (1 : Int32)) dX6_read_78 (by decide) (qv_iadd C dX6_read_79 (qv_putI C fl_X6_33 cl_X6 rfl (by decide) (by decide) (by decide) rfl rfl rfl (qin_nar _) (qin_fits _) dX6_read_80 (qv_let (fun s4 => (qv_iinc C (v := (v2 + (1 : Int32))) dX6_read_83 rfl rfl (by decide) rfl (qv_goto C (tgt := 14) dX6_read_86 (by decide) (qV.weak [true, true, true] (hrk14 w0 (v2 + (1 : Int32)) s4))))))))))))))))
def b_X6_read_14 (rk14 : Int32 → Int32 → qS → Option qO) (v1 : Int32) (v2 : Int32) (s0 : qS) : Option qO :=
  (if v1 = 0 then (if v1 = 0 then (if (s0 19 0 5) = (s0 19 0 3) then (some (.inl (some (qI (1 : Int32))), s0)) else
  (some (.inl (some (qI (0 : Int32))), s0))) else
  (some (.inl (some (qI (0 : Int32))), s0))) else
  (if (Int32.ofNat 60) ≤ v2 then (if v1 = 0 then (if (s0 19 0 5) = (s0 19 0 3) then (some (.inl (some (qI (1 : Int32))), s0)) else
  (some (.inl (some (qI (0 : Int32))), s0))) else
  (some (.inl (some (qI (0 : Int32))), s0))) else
  qbind (f_X6_readCommand  s0) (qvI (fun r1 s3 =>
  (if r1 = 0 then (some (.inl (some (qI (0 : Int32))), s3)) else
  (if (s3 19 0 3) ≤ (s3 19 0 5) then j_X6_read_68  rk14 v2 (0 : Int32) s3 else
  qbind (f_X7_charAt 20 0 (s3 19 0 5) s3) (qvI (fun r2 s5 =>
  (if r2 = (59 : Int32) then j_X6_read_68  rk14 v2 (1 : Int32) s5 else
  j_X6_read_68  rk14 v2 (0 : Int32) s5))) qE0)))) qE0))
def l_X6_read_14 : Nat → Int32 → Int32 → qS → Option qO
  | 0, _, _, _ => none
  | n + 1, v1, v2, s0 => b_X6_read_14  (l_X6_read_14  n) v1 v2 s0
set_option maxRecDepth 100000 in
set_option maxHeartbeats 4000000 in
theorem bt_X6_read_14 {p : Program} {l : Launch} {e : Env} {s : State} {m : MethodId} {args : Array Value} {below : List Frame} {meth : Method} {c : Code} {g : qG} (hl : l.stackTraces = false) (C : qC p l s m meth c cX6_read 3 RX6 g) (hret : meth.sig.returnType = (some .boolean)) (ht : ∀ x ∈ c.exceptionTable.toList, False)  (rk14 : Int32 → Int32 → qS → Option qO) (hrk14 : ∀ (v1 : Int32) (v2 : Int32) (s0 : qS), qV p l e (qrm 7 0 0) s m args below meth c g 3 (qQf g below args s (qrm 7 0 0)) (rk14 v1 v2 s0) 0 0 14 [some (qR 19 0), some (qI v1), some (qI v2)] [] s0) (v1 : Int32) (v2 : Int32) (s0 : qS) : qV p l e (qrm 7 0 0) s m args below meth c g 3 (qQf g below args s (qrm 7 0 0)) (b_X6_read_14  rk14 v1 v2 s0) 0 0 14 [some (qR 19 0), some (qI v1), some (qI v2)] [] s0 :=
  (qv_iload_n C dX6_read_14 rfl (qv_if_eq C (tgt := 89) dX6_read_15 (by decide) (fun _ => (qv_iload_n C dX6_read_89 rfl (qv_if_ne C (tgt := 108) dX6_read_90 (by decide) (fun _ => (qv_aload_n C dX6_read_93 rfl (qv_getI C fl_X6_33 cl_X6 rfl (by decide) (by decide) (by decide) rfl dX6_read_94 (qv_aload_n C dX6_read_97 rfl (qv_getI C fl_X6_25 cl_X6 rfl (by decide) (by decide) (by decide) rfl dX6_read_98 (qv_icmp_ne C (tgt := 108) dX6_read_101 (by decide) (fun _ => (qv_iconst C (v := (1 : Int32)) dX6_read_104 (by decide) (qv_goto C (tgt := 109) dX6_read_105 (by decide) (qv_zret! C hret (qbo_nar (by decide)) dX6_read_109))))
  (fun _ => (qv_iconst C (v := (0 : Int32)) dX6_read_108 (by decide) (qv_zret! C hret (qbo_nar (by decide)) dX6_read_109)))))))))
  (fun _ => (qv_iconst C (v := (0 : Int32)) dX6_read_108 (by decide) (qv_zret! C hret (qbo_nar (by decide)) dX6_read_109))))))
  (fun _ => (qv_iload_n C dX6_read_18 rfl (qv_aload_n C dX6_read_19 rfl (qv_getR C (j2 := 0) fl_X6_17 cl_X6 rfl (by decide) (by decide) (by decide) rfl rfl dX6_read_20 (qv_alen C (Or.inr (Or.inr (Or.inr rfl))) rfl (by decide) (by decide) dX6_read_23 (qv_icmp_ge C (tgt := 89) dX6_read_24 (by decide) (fun _ => (qv_iload_n C dX6_read_89 rfl (qv_if_ne C (tgt := 108) dX6_read_90 (by decide) (fun _ => (qv_aload_n C dX6_read_93 rfl (qv_getI C fl_X6_33 cl_X6 rfl (by decide) (by decide) (by decide) rfl dX6_read_94 (qv_aload_n C dX6_read_97 rfl (qv_getI C fl_X6_25 cl_X6 rfl (by decide) (by decide) (by decide) rfl dX6_read_98 (qv_icmp_ne C (tgt := 108) dX6_read_101 (by decide) (fun _ => (qv_iconst C (v := (1 : Int32)) dX6_read_104 (by decide) (qv_goto C (tgt := 109) dX6_read_105 (by decide) (qv_zret! C hret (qbo_nar (by decide)) dX6_read_109))))
  (fun _ => (qv_iconst C (v := (0 : Int32)) dX6_read_108 (by decide) (qv_zret! C hret (qbo_nar (by decide)) dX6_read_109)))))))))
  (fun _ => (qv_iconst C (v := (0 : Int32)) dX6_read_108 (by decide) (qv_zret! C hret (qbo_nar (by decide)) dX6_read_109))))))
  (fun _ => (qv_aload_n C dX6_read_27 rfl (qv_callV C (rest := []) (cb := 0) (sb := 0) (t_X6_readCommand hl  s0) mw_X6_readCommand lk_X6_39 in_X6_readCommand se_X6_readCommand rfl (by decide) (by decide) rfl rfl (Nat.le_of_ble_eq_true rfl) (by decide) dX6_read_28 rfl (qkI (fun r1 s3 => (qv_if_ne C (tgt := 36) dX6_read_31 (by decide) (fun _ => (qv_iconst C (v := (0 : Int32)) dX6_read_34 (by decide) (qv_zret! C hret (qbo_nar (by decide)) dX6_read_35)))
  (fun _ => (qv_aload_n C dX6_read_36 rfl (qv_getI C fl_X6_33 cl_X6 rfl (by decide) (by decide) (by decide) rfl dX6_read_37 (qv_aload_n C dX6_read_40 rfl (qv_getI C fl_X6_25 cl_X6 rfl (by decide) (by decide) (by decide) rfl dX6_read_41 (qv_icmp_ge C (tgt := 67) dX6_read_44 (by decide) (fun _ => (qv_iconst C (v := (0 : Int32)) dX6_read_67 (by decide) (qV.weak [true, false, true] (jt_X6_read_68 hl C hret ht  rk14 hrk14 v2 (0 : Int32) s3))))
  (fun _ => (qv_aload_n C dX6_read_47 rfl (qv_getR C (j2 := 0) fl_X6_9 cl_X6 rfl (by decide) (by decide) (by decide) rfl rfl dX6_read_48 (qv_aload_n C dX6_read_51 rfl (qv_getI C fl_X6_33 cl_X6 rfl (by decide) (by decide) (by decide) rfl dX6_read_52 (qv_callSN C (rest := []) (cb := 0) (sb := 0) (t_X7_charAt hl rfl (by decide) (by decide) (s3 19 0 5) s3) mw_X7_charAt lk_X6_43 st_X7_charAt rfl (Nat.le_of_ble_eq_true rfl) (by decide) dX6_read_55 rfl (qkI (fun r2 s5 => (qv_bipush C (v := (59 : Int32)) dX6_read_58 (by decide) (qv_icmp_ne C (tgt := 67) dX6_read_60 (by decide) (fun _ => (qv_iconst C (v := (1 : Int32)) dX6_read_63 (by decide) (qv_goto C (tgt := 68) dX6_read_64 (by decide) (qV.weak [true, false, true] (jt_X6_read_68 hl C hret ht  rk14 hrk14 v2 (1 : Int32) s5)))))
  (fun _ => (qv_iconst C (v := (0 : Int32)) dX6_read_67 (by decide) (qV.weak [true, false, true] (jt_X6_read_68 hl C hret ht  rk14 hrk14 v2 (0 : Int32) s5))))))))))))))))))))))))))))))))))
theorem lt_X6_read_14 {p : Program} {l : Launch} {e : Env} {s : State} {m : MethodId} {args : Array Value} {below : List Frame} {meth : Method} {c : Code} {g : qG} (hl : l.stackTraces = false) (C : qC p l s m meth c cX6_read 3 RX6 g) (hret : meth.sig.returnType = (some .boolean)) (ht : ∀ x ∈ c.exceptionTable.toList, False)  : ∀ (n : Nat) (v1 : Int32) (v2 : Int32) (s0 : qS), qV p l e (qrm 7 0 0) s m args below meth c g 3 (qQf g below args s (qrm 7 0 0)) (l_X6_read_14  n v1 v2 s0) 0 0 14 [some (qR 19 0), some (qI v1), some (qI v2)] [] s0
  | 0, _, _, _ => qV.no
  | n + 1, v1, v2, s0 => bt_X6_read_14 hl C hret ht  _ (lt_X6_read_14 hl C hret ht  n) v1 v2 s0
def f_X6_read  (s0 : qS) : Option qO :=
  qlet (qu s0 19 0 5 (0 : Int32)) (fun s1 =>
  qlet (qu s1 19 0 4 (0 : Int32)) (fun s2 =>
  l_X6_read_14  qFU (1 : Int32) (0 : Int32) s2))
set_option maxRecDepth 100000 in
set_option maxHeartbeats 4000000 in
theorem t_X6_read {g : qG} {l : Launch} (hl : l.stackTraces = false)  (s0 : qS) : qM g l 7 0 0 (.code yX6_read cX6_read 3 (some .boolean)) yX6_read [qR 19 0] s0 (f_X6_read  s0) := by
  refine qM_of (by decide +kernel) hl (List.forall_mem_cons.mpr ⟨rfl, (fun _ h => absurd h List.not_mem_nil)⟩) (Nat.le_of_ble_eq_true rfl) ?_
  intro p e s m args below meth c C hret ht
  show qV p l e _ s m args below meth c g _ _ _ _ _ 0 [some (qR 19 0), none, none] [] s0
  exact (qv_aload_n C dX6_read_0 rfl (qv_iconst C (v := (0 : Int32)) dX6_read_1 (by decide) (qv_putI C fl_X6_33 cl_X6 rfl (by decide) (by decide) (by decide) rfl rfl rfl (qin_nar _) (qin_fits _) dX6_read_2 (qv_let (fun s1 => (qv_aload_n C dX6_read_5 rfl (qv_iconst C (v := (0 : Int32)) dX6_read_6 (by decide) (qv_putI C fl_X6_36 cl_X6 rfl (by decide) (by decide) (by decide) rfl rfl rfl (qin_nar _) (qin_fits _) dX6_read_7 (qv_let (fun s2 => (qv_iconst C (v := (1 : Int32)) dX6_read_10 (by decide) (qv_istore_n C dX6_read_11 (by decide) rfl (qv_iconst C (v := (0 : Int32)) dX6_read_12 (by decide) (qv_istore_n C dX6_read_13 (by decide) rfl (qV.weak [true, true, true] (lt_X6_read_14 hl C hret ht  qFU (1 : Int32) (0 : Int32) s2))))))))))))))))
