/-! the reference, b (printed by wip/whole/gen) -/
def b_X8_hasRoom_16 (rk16 : Int32 → Int32 → Int32 → qS → Option qO) (v1 : Int32) (v3 : Int32) (v4 : Int32) (s0 : qS) : Option qO :=
  qbind (f_X8_of v1 (0 : Int32) s0) (qvI (fun r2 s2 =>
  (if r2 ≤ v4 then (some (.inl (some (qI (1 : Int32))), s2)) else
  (if qin (v3 + v4) 480 then qbind (f_X8_of v1 (2 : Int32) s2) (qvI (fun r3 s3 =>
  qbind (f_X8_of v1 (1 : Int32) s3) (qvI (fun r4 s4 =>
  (if qin ((2 : Int32) + r4) 77 then (if ((s2 34 0 ((v3 + v4)).toNatClampNeg) + r3) ≤ (s4 27 0 (((2 : Int32) + r4)).toNatClampNeg) then rk16 v1 v3 (v4 + (1 : Int32)) s4 else
  (some (.inl (some (qI (0 : Int32))), s4))) else none))) qE0)) qE0 else none)))) qE0
def l_X8_hasRoom_16 : Nat → Int32 → Int32 → Int32 → qS → Option qO
  | 0, _, _, _, _ => none
  | n + 1, v1, v3, v4, s0 => b_X8_hasRoom_16  (l_X8_hasRoom_16  n) v1 v3 v4 s0
set_option maxRecDepth 100000 in
set_option maxHeartbeats 4000000 in
theorem bt_X8_hasRoom_16 {p : Program} {l : Launch} {e : Env} {s : State} {m : MethodId} {args : Array Value} {below : List Frame} {meth : Method} {c : Code} {g : qG} (hl : l.stackTraces = false) (C : qC p l s m meth c cX8_hasRoom 5 RX8 g) (hret : meth.sig.returnType = (some .boolean)) (ht : ∀ x ∈ c.exceptionTable.toList, False)  (rk16 : Int32 → Int32 → Int32 → qS → Option qO) (hrk16 : ∀ (v1 : Int32) (v3 : Int32) (v4 : Int32) (s0 : qS), qV p l e (qrm 4 0 0) s m args below meth c g 5 (qQf g below args s (qrm 4 0 0)) (rk16 v1 v3 v4 s0) 0 0 16 [some (qR 26 0), some (qI v1), none, some (qI v3), some (qI v4)] [] s0) (v1 : Int32) (v3 : Int32) (v4 : Int32) (s0 : qS) : qV p l e (qrm 4 0 0) s m args below meth c g 5 (qQf g below args s (qrm 4 0 0)) (b_X8_hasRoom_16  rk16 v1 v3 v4 s0) 0 0 16 [some (qR 26 0), some (qI v1), none, some (qI v3), some (qI v4)] [] s0 :=
  (qv_iload C dX8_hasRoom_16 rfl (qv_aload_n C dX8_hasRoom_18 rfl (qv_iload_n C dX8_hasRoom_19 rfl (qv_iconst C (v := (0 : Int32)) dX8_hasRoom_20 (by decide) (qv_callV C (rest := [qI v4]) (cb := 0) (sb := 0) (t_X8_of hl v1 (0 : Int32) s0) mw_X8_of lk_X8_87 in_X8_of se_X8_of rfl (by decide) (by decide) rfl rfl (Nat.le_of_ble_eq_true rfl) (by decide) dX8_hasRoom_21 rfl (qkI (fun r2 s2 => (qv_icmp_ge C (tgt := 67) dX8_hasRoom_24 (by decide) (fun _ => (qv_iconst C (v := (1 : Int32)) dX8_hasRoom_67 (by decide) (qv_zret! C hret (qbo_nar (by decide)) dX8_hasRoom_68)))
  (fun _ => (qv_aload_n C dX8_hasRoom_27 rfl (qv_getR C (j2 := 0) fl_X8_38 cl_X8 rfl (by decide) (by decide) (by decide) rfl rfl dX8_hasRoom_28 (qv_iload_n C dX8_hasRoom_31 rfl (qv_iload C dX8_hasRoom_32 rfl (qv_iadd C dX8_hasRoom_34 (qv_iald C rfl rfl (by decide) (by decide) dX8_hasRoom_35 (fun _ => (qv_aload_n C dX8_hasRoom_36 rfl (qv_iload_n C dX8_hasRoom_37 rfl (qv_iconst C (v := (2 : Int32)) dX8_hasRoom_38 (by decide) (qv_callV C (rest := [qI (s2 34 0 ((v3 + v4)).toNatClampNeg)]) (cb := 0) (sb := 0) (t_X8_of hl v1 (2 : Int32) s2) mw_X8_of lk_X8_87 in_X8_of se_X8_of rfl (by decide) (by decide) rfl rfl (Nat.le_of_ble_eq_true rfl) (by decide) dX8_hasRoom_39 rfl (qkI (fun r3 s3 => (qv_iadd C dX8_hasRoom_42 (qv_aload_n C dX8_hasRoom_43 rfl (qv_getR C (j2 := 0) fl_X8_9 cl_X8 rfl (by decide) (by decide) (by decide) rfl rfl dX8_hasRoom_44 (qv_iconst C (v := (2 : Int32)) dX8_hasRoom_47 (by decide) (qv_aload_n C dX8_hasRoom_48 rfl (qv_iload_n C dX8_hasRoom_49 rfl (qv_iconst C (v := (1 : Int32)) dX8_hasRoom_50 (by decide) (qv_callV C (rest := [qI (2 : Int32), qR 27 0, qI ((s2 34 0 ((v3 + v4)).toNatClampNeg) + r3)]) (cb := 0) (sb := 0) (t_X8_of hl v1 (1 : Int32) s3) mw_X8_of lk_X8_87 in_X8_of se_X8_of rfl (by decide) (by decide) rfl rfl (Nat.le_of_ble_eq_true rfl) (by decide) dX8_hasRoom_51 rfl (qkI (fun r4 s4 => (qv_iadd C dX8_hasRoom_54 (qv_iald C rfl rfl (by decide) (by decide) dX8_hasRoom_55 (fun _ => (qv_icmp_le C (tgt := 61) dX8_hasRoom_56 (by decide) (fun _ => (qv_iinc C (v := (v4 + (1 : Int32))) dX8_hasRoom_61 rfl rfl (by decide) rfl (qv_goto C (tgt := 16) dX8_hasRoom_64 (by decide) (qV.weak [true, true, false, true, true] (hrk16 v1 v3 (v4 + (1 : Int32)) s4)))))
  (fun _ => (qv_iconst C (v := (0 : Int32)) dX8_hasRoom_59 (by decide) (qv_zret! C hret (qbo_nar (by decide)) dX8_hasRoom_60)))))))))))))))))))))))))))))))))))))))
theorem lt_X8_hasRoom_16 {p : Program} {l : Launch} {e : Env} {s : State} {m : MethodId} {args : Array Value} {below : List Frame} {meth : Method} {c : Code} {g : qG} (hl : l.stackTraces = false) (C : qC p l s m meth c cX8_hasRoom 5 RX8 g) (hret : meth.sig.returnType = (some .boolean)) (ht : ∀ x ∈ c.exceptionTable.toList, False)  : ∀ (n : Nat) (v1 : Int32) (v3 : Int32) (v4 : Int32) (s0 : qS), qV p l e (qrm 4 0 0) s m args below meth c g 5 (qQf g below args s (qrm 4 0 0)) (l_X8_hasRoom_16  n v1 v3 v4 s0) 0 0 16 [some (qR 26 0), some (qI v1), none, some (qI v3), some (qI v4)] [] s0
  | 0, _, _, _, _ => qV.no
  | n + 1, v1, v3, v4, s0 => bt_X8_hasRoom_16 hl C hret ht  _ (lt_X8_hasRoom_16 hl C hret ht  n) v1 v3 v4 s0
def f_X8_hasRoom (a1 : Int32) (a2 : Int32) (s0 : qS) : Option qO :=
  qbind (f_X8_of a1 (1 : Int32) s0) (qvI (fun r1 s1 =>
  l_X8_hasRoom_16  qFU a1 (((160 : Int32) * r1) + a2) (0 : Int32) s1)) qE0
set_option maxRecDepth 100000 in
set_option maxHeartbeats 4000000 in
theorem t_X8_hasRoom {g : qG} {l : Launch} (hl : l.stackTraces = false) (a1 : Int32) (a2 : Int32) (s0 : qS) : qM g l 4 0 0 (.code yX8_hasRoom cX8_hasRoom 5 (some .boolean)) yX8_hasRoom [qR 26 0, qI a1, qI a2] s0 (f_X8_hasRoom a1 a2 s0) := by
  refine qM_of (by decide +kernel) hl (List.forall_mem_cons.mpr ⟨rfl, (List.forall_mem_cons.mpr ⟨rfl, (List.forall_mem_cons.mpr ⟨rfl, (fun _ h => absurd h List.not_mem_nil)⟩)⟩)⟩) (Nat.le_of_ble_eq_true rfl) ?_
  intro p e s m args below meth c C hret ht
  show qV p l e _ s m args below meth c g _ _ _ _ _ 0 [some (qR 26 0), some (qI a1), some (qI a2), none, none] [] s0
  exact (qv_sipush C (v := (160 : Int32)) dX8_hasRoom_0 (by decide) (qv_aload_n C dX8_hasRoom_3 rfl (qv_iload_n C dX8_hasRoom_4 rfl (qv_iconst C (v := (1 : Int32)) dX8_hasRoom_5 (by decide) (qv_callV C (rest := [qI (160 : Int32)]) (cb := 0) (sb := 0) (t_X8_of hl a1 (1 : Int32) s0) mw_X8_of lk_X8_87 in_X8_of se_X8_of rfl (by decide) (by decide) rfl rfl (Nat.le_of_ble_eq_true rfl) (by decide) dX8_hasRoom_6 rfl (qkI (fun r1 s1 => (qv_imul C dX8_hasRoom_9 (qv_iload_n C dX8_hasRoom_10 rfl (qv_iadd C dX8_hasRoom_11 (qv_istore_n C dX8_hasRoom_12 (by decide) rfl (qv_iconst C (v := (0 : Int32)) dX8_hasRoom_13 (by decide) (qv_istore C dX8_hasRoom_14 (by decide) rfl (qV.weak [true, true, false, true, true] (lt_X8_hasRoom_16 hl C hret ht  qFU a1 (((160 : Int32) * r1) + a2) (0 : Int32) s1)))))))))))))))
def f_X8_taskCount  (s0 : qS) : Option qO :=
  qlet (qu s0 26 0 17 (0 : Int32)) (fun s1 =>
  (some (.inl (some (qI (s1 27 0 0))), s1)))
set_option maxRecDepth 100000 in
set_option maxHeartbeats 4000000 in
theorem t_X8_taskCount {g : qG} {l : Launch} (hl : l.stackTraces = false)  (s0 : qS) : qM g l 1 0 0 (.code yX8_taskCount cX8_taskCount 1 (some .int)) yX8_taskCount [qR 26 0] s0 (f_X8_taskCount  s0) := by
  refine qM_of (by decide +kernel) hl (List.forall_mem_cons.mpr ⟨rfl, (fun _ h => absurd h List.not_mem_nil)⟩) (Nat.le_of_ble_eq_true rfl) ?_
  intro p e s m args below meth c C hret ht
  show qV p l e _ s m args below meth c g _ _ _ _ _ 0 [some (qR 26 0)] [] s0
  exact (qv_aload_n C dX8_taskCount_0 rfl (qv_iconst C (v := (0 : Int32)) dX8_taskCount_1 (by decide) (qv_putI C fl_X8_50 cl_X8 rfl (by decide) (by decide) (by decide) rfl rfl rfl (qin_nar _) (qin_fits _) dX8_taskCount_2 (qv_let (fun s1 => (qv_aload_n C dX8_taskCount_5 rfl (qv_getR C (j2 := 0) fl_X8_9 cl_X8 rfl (by decide) (by decide) (by decide) rfl rfl dX8_taskCount_6 (qv_iconst C (v := (0 : Int32)) dX8_taskCount_9 (by decide) (qv_iald! C rfl (by decide) (by decide) (by decide) dX8_taskCount_10 (qv_iret C hret dX8_taskCount_11))))))))))
def f_X8_asks (a1 : Int32) (a2 : Int32) (s0 : qS) : Option qO :=
  qbind (f_X8_isTask a1 s0) (qvI (fun r1 s1 =>
  qbind (f_X8_goes r1 s1) (qvI (fun r2 s2 =>
  (if r2 = 0 then (some (.inl (some (qI (0 : Int32))), s2)) else
  qbind (f_X8_of a1 a2 s2) (qvI (fun r3 s3 =>
  (some (.inl (some (qI r3)), s3)))) qE0))) qE0)) qE0
set_option maxRecDepth 100000 in
set_option maxHeartbeats 4000000 in
theorem t_X8_asks {g : qG} {l : Launch} (hl : l.stackTraces = false) (a1 : Int32) (a2 : Int32) (s0 : qS) : qM g l 4 0 0 (.code yX8_asks cX8_asks 3 (some .int)) yX8_asks [qR 26 0, qI a1, qI a2] s0 (f_X8_asks a1 a2 s0) := by
  refine qM_of (by decide +kernel) hl (List.forall_mem_cons.mpr ⟨rfl, (List.forall_mem_cons.mpr ⟨rfl, (List.forall_mem_cons.mpr ⟨rfl, (fun _ h => absurd h List.not_mem_nil)⟩)⟩)⟩) (Nat.le_of_ble_eq_true rfl) ?_
  intro p e s m args below meth c C hret ht
  show qV p l e _ s m args below meth c g _ _ _ _ _ 0 [some (qR 26 0), some (qI a1), some (qI a2)] [] s0
  exact (qv_aload_n C dX8_asks_0 rfl (qv_aload_n C dX8_asks_1 rfl (qv_iload_n C dX8_asks_2 rfl (qv_callV C (rest := [qR 26 0]) (cb := 0) (sb := 0) (t_X8_isTask hl a1 s0) mw_X8_isTask lk_X8_79 in_X8_isTask se_X8_isTask rfl (by decide) (by decide) rfl rfl (Nat.le_of_ble_eq_true rfl) (by decide) dX8_asks_3 rfl (qkI (fun r1 s1 => (qv_callV C (rest := []) (cb := 0) (sb := 0) (t_X8_goes hl r1 s1) mw_X8_goes lk_X8_67 in_X8_goes se_X8_goes rfl (by decide) (by decide) rfl rfl (Nat.le_of_ble_eq_true rfl) (by decide) dX8_asks_6 rfl (qkI (fun r2 s2 => (qv_if_eq C (tgt := 21) dX8_asks_9 (by decide) (fun _ => (qv_iconst C (v := (0 : Int32)) dX8_asks_21 (by decide) (qv_iret C hret dX8_asks_22)))
  (fun _ => (qv_aload_n C dX8_asks_12 rfl (qv_iload_n C dX8_asks_13 rfl (qv_iload_n C dX8_asks_14 rfl (qv_callV C (rest := []) (cb := 0) (sb := 0) (t_X8_of hl a1 a2 s2) mw_X8_of lk_X8_87 in_X8_of se_X8_of rfl (by decide) (by decide) rfl rfl (Nat.le_of_ble_eq_true rfl) (by decide) dX8_asks_15 rfl (qkI (fun r3 s3 => (qv_goto C (tgt := 22) dX8_asks_18 (by decide) (qv_iret C hret dX8_asks_22)))))))))))))))))))
def f_X8_duration (a1 : Int32) (s0 : qS) : Option qO :=
  qbind (f_X8_asks a1 (0 : Int32) s0) (qvI (fun r1 s1 =>
  (some (.inl (some (qI r1)), s1)))) qE0
set_option maxRecDepth 100000 in
set_option maxHeartbeats 4000000 in
theorem t_X8_duration {g : qG} {l : Launch} (hl : l.stackTraces = false) (a1 : Int32) (s0 : qS) : qM g l 5 0 0 (.code yX8_duration cX8_duration 2 (some .int)) yX8_duration [qR 26 0, qI a1] s0 (f_X8_duration a1 s0) := by
  refine qM_of (by decide +kernel) hl (List.forall_mem_cons.mpr ⟨rfl, (List.forall_mem_cons.mpr ⟨rfl, (fun _ h => absurd h List.not_mem_nil)⟩)⟩) (Nat.le_of_ble_eq_true rfl) ?_
  intro p e s m args below meth c C hret ht
  show qV p l e _ s m args below meth c g _ _ _ _ _ 0 [some (qR 26 0), some (qI a1)] [] s0
  exact (qv_aload_n C dX8_duration_0 rfl (qv_iload_n C dX8_duration_1 rfl (qv_iconst C (v := (0 : Int32)) dX8_duration_2 (by decide) (qv_callV C (rest := []) (cb := 0) (sb := 0) (t_X8_asks hl a1 (0 : Int32) s0) mw_X8_asks lk_X8_163 in_X8_asks se_X8_asks rfl (by decide) (by decide) rfl rfl (Nat.le_of_ble_eq_true rfl) (by decide) dX8_duration_3 rfl (qkI (fun r1 s1 => (qv_iret C hret dX8_duration_6)))))))
def f_X8_resource (a1 : Int32) (s0 : qS) : Option qO :=
  qbind (f_X8_asks a1 (1 : Int32) s0) (qvI (fun r1 s1 =>
  (some (.inl (some (qI r1)), s1)))) qE0
set_option maxRecDepth 100000 in
set_option maxHeartbeats 4000000 in
theorem t_X8_resource {g : qG} {l : Launch} (hl : l.stackTraces = false) (a1 : Int32) (s0 : qS) : qM g l 5 0 0 (.code yX8_resource cX8_resource 2 (some .int)) yX8_resource [qR 26 0, qI a1] s0 (f_X8_resource a1 s0) := by
  refine qM_of (by decide +kernel) hl (List.forall_mem_cons.mpr ⟨rfl, (List.forall_mem_cons.mpr ⟨rfl, (fun _ h => absurd h List.not_mem_nil)⟩)⟩) (Nat.le_of_ble_eq_true rfl) ?_
  intro p e s m args below meth c C hret ht
  show qV p l e _ s m args below meth c g _ _ _ _ _ 0 [some (qR 26 0), some (qI a1)] [] s0
  exact (qv_aload_n C dX8_resource_0 rfl (qv_iload_n C dX8_resource_1 rfl (qv_iconst C (v := (1 : Int32)) dX8_resource_2 (by decide) (qv_callV C (rest := []) (cb := 0) (sb := 0) (t_X8_asks hl a1 (1 : Int32) s0) mw_X8_asks lk_X8_163 in_X8_asks se_X8_asks rfl (by decide) (by decide) rfl rfl (Nat.le_of_ble_eq_true rfl) (by decide) dX8_resource_3 rfl (qkI (fun r1 s1 => (qv_iret C hret dX8_resource_6)))))))
def f_X8_demand (a1 : Int32) (s0 : qS) : Option qO :=
  qbind (f_X8_asks a1 (2 : Int32) s0) (qvI (fun r1 s1 =>
  (some (.inl (some (qI r1)), s1)))) qE0
set_option maxRecDepth 100000 in
set_option maxHeartbeats 4000000 in
theorem t_X8_demand {g : qG} {l : Launch} (hl : l.stackTraces = false) (a1 : Int32) (s0 : qS) : qM g l 5 0 0 (.code yX8_demand cX8_demand 2 (some .int)) yX8_demand [qR 26 0, qI a1] s0 (f_X8_demand a1 s0) := by
  refine qM_of (by decide +kernel) hl (List.forall_mem_cons.mpr ⟨rfl, (List.forall_mem_cons.mpr ⟨rfl, (fun _ h => absurd h List.not_mem_nil)⟩)⟩) (Nat.le_of_ble_eq_true rfl) ?_
  intro p e s m args below meth c C hret ht
  show qV p l e _ s m args below meth c g _ _ _ _ _ 0 [some (qR 26 0), some (qI a1)] [] s0
  exact (qv_aload_n C dX8_demand_0 rfl (qv_iload_n C dX8_demand_1 rfl (qv_iconst C (v := (2 : Int32)) dX8_demand_2 (by decide) (qv_callV C (rest := []) (cb := 0) (sb := 0) (t_X8_asks hl a1 (2 : Int32) s0) mw_X8_asks lk_X8_163 in_X8_asks se_X8_asks rfl (by decide) (by decide) rfl rfl (Nat.le_of_ble_eq_true rfl) (by decide) dX8_demand_3 rfl (qkI (fun r1 s1 => (qv_iret C hret dX8_demand_6)))))))
def f_X8_release (a1 : Int32) (s0 : qS) : Option qO :=
  qbind (f_X8_asks a1 (3 : Int32) s0) (qvI (fun r1 s1 =>
  (some (.inl (some (qI r1)), s1)))) qE0
set_option maxRecDepth 100000 in
set_option maxHeartbeats 4000000 in
theorem t_X8_release {g : qG} {l : Launch} (hl : l.stackTraces = false) (a1 : Int32) (s0 : qS) : qM g l 5 0 0 (.code yX8_release cX8_release 2 (some .int)) yX8_release [qR 26 0, qI a1] s0 (f_X8_release a1 s0) := by
  refine qM_of (by decide +kernel) hl (List.forall_mem_cons.mpr ⟨rfl, (List.forall_mem_cons.mpr ⟨rfl, (fun _ h => absurd h List.not_mem_nil)⟩)⟩) (Nat.le_of_ble_eq_true rfl) ?_
  intro p e s m args below meth c C hret ht
  show qV p l e _ s m args below meth c g _ _ _ _ _ 0 [some (qR 26 0), some (qI a1)] [] s0
  exact (qv_aload_n C dX8_release_0 rfl (qv_iload_n C dX8_release_1 rfl (qv_iconst C (v := (3 : Int32)) dX8_release_2 (by decide) (qv_callV C (rest := []) (cb := 0) (sb := 0) (t_X8_asks hl a1 (3 : Int32) s0) mw_X8_asks lk_X8_163 in_X8_asks se_X8_asks rfl (by decide) (by decide) rfl rfl (Nat.le_of_ble_eq_true rfl) (by decide) dX8_release_3 rfl (qkI (fun r1 s1 => (qv_iret C hret dX8_release_6)))))))
def f_X8_limit (a1 : Int32) (s0 : qS) : Option qO :=
  qbind (f_X8_isResource a1 s0) (qvI (fun r1 s1 =>
  qbind (f_X8_goes r1 s1) (qvI (fun r2 s2 =>
  (if r2 = 0 then (some (.inl (some (qI (0 : Int32))), s2)) else
  (if qin ((2 : Int32) + a1) 77 then (some (.inl (some (qI (s2 27 0 (((2 : Int32) + a1)).toNatClampNeg))), s2)) else none)))) qE0)) qE0
set_option maxRecDepth 100000 in
set_option maxHeartbeats 4000000 in
theorem t_X8_limit {g : qG} {l : Launch} (hl : l.stackTraces = false) (a1 : Int32) (s0 : qS) : qM g l 3 0 0 (.code yX8_limit cX8_limit 2 (some .int)) yX8_limit [qR 26 0, qI a1] s0 (f_X8_limit a1 s0) := by
  refine qM_of (by decide +kernel) hl (List.forall_mem_cons.mpr ⟨rfl, (List.forall_mem_cons.mpr ⟨rfl, (fun _ h => absurd h List.not_mem_nil)⟩)⟩) (Nat.le_of_ble_eq_true rfl) ?_
  intro p e s m args below meth c C hret ht
  show qV p l e _ s m args below meth c g _ _ _ _ _ 0 [some (qR 26 0), some (qI a1)] [] s0
  exact (qv_aload_n C dX8_limit_0 rfl (qv_iload_n C dX8_limit_1 rfl (qv_callS C (rest := [qR 26 0]) (cb := 0) (sb := 0) (t_X8_isResource hl a1 s0) mw_X8_isResource lk_X8_94 st_X8_isResource rfl (Nat.le_of_ble_eq_true rfl) (by decide) dX8_limit_2 rfl (qkI (fun r1 s1 => (qv_callV C (rest := []) (cb := 0) (sb := 0) (t_X8_goes hl r1 s1) mw_X8_goes lk_X8_67 in_X8_goes se_X8_goes rfl (by decide) (by decide) rfl rfl (Nat.le_of_ble_eq_true rfl) (by decide) dX8_limit_5 rfl (qkI (fun r2 s2 => (qv_if_eq C (tgt := 22) dX8_limit_8 (by decide) (fun _ => (qv_iconst C (v := (0 : Int32)) dX8_limit_22 (by decide) (qv_iret C hret dX8_limit_23)))
  (fun _ => (qv_aload_n C dX8_limit_11 rfl (qv_getR C (j2 := 0) fl_X8_9 cl_X8 rfl (by decide) (by decide) (by decide) rfl rfl dX8_limit_12 (qv_iconst C (v := (2 : Int32)) dX8_limit_15 (by decide) (qv_iload_n C dX8_limit_16 rfl (qv_iadd C dX8_limit_17 (qv_iald C rfl rfl (by decide) (by decide) dX8_limit_18 (fun _ => (qv_goto C (tgt := 23) dX8_limit_19 (by decide) (qv_iret C hret dX8_limit_23)))))))))))))))))))
def j_X8_dependsDirectly_21 (v1 : Int32) (v2 : Int32) (s0 : qS) : Option qO :=
  qbind (f_X8_goes (0 : Int32) s0) (qvI (fun r2 s2 =>
  (if r2 = 0 then (some (.inl (some (qI (0 : Int32))), s2)) else
  qbind (f_X8_isNeeded v1 v2 s2) (qvI (fun r3 s3 =>
  (if r3 = 0 then (some (.inl (some (qI (0 : Int32))), s3)) else
  (some (.inl (some (qI (1 : Int32))), s3))))) qE0))) qE0
set_option maxRecDepth 100000 in
set_option maxHeartbeats 4000000 in
theorem jt_X8_dependsDirectly_21 {p : Program} {l : Launch} {e : Env} {s : State} {m : MethodId} {args : Array Value} {below : List Frame} {meth : Method} {c : Code} {g : qG} (hl : l.stackTraces = false) (C : qC p l s m meth c cX8_dependsDirectly 3 RX8 g) (hret : meth.sig.returnType = (some .boolean)) (ht : ∀ x ∈ c.exceptionTable.toList, False)  (v1 : Int32) (v2 : Int32) (s0 : qS) : qV p l e (qrm 5 0 0) s m args below meth c g 3 (qQf g below args s (qrm 5 0 0)) (j_X8_dependsDirectly_21  v1 v2 s0) 0 0 21 [some (qR 26 0), some (qI v1), some (qI v2)] [qR 26 0] s0 :=
  (qv_iconst C (v := (0 : Int32)) dX8_dependsDirectly_21 (by decide) (qv_callV C (rest := []) (cb := 0) (sb := 0) (t_X8_goes hl (0 : Int32) s0) mw_X8_goes lk_X8_67 in_X8_goes se_X8_goes rfl (by decide) (by decide) rfl rfl (Nat.le_of_ble_eq_true rfl) (by decide) dX8_dependsDirectly_22 rfl (qkI (fun r2 s2 => (qv_if_eq C (tgt := 41) dX8_dependsDirectly_25 (by decide) (fun _ => (qv_iconst C (v := (0 : Int32)) dX8_dependsDirectly_41 (by decide) (qv_zret! C hret (qbo_nar (by decide)) dX8_dependsDirectly_42)))
  (fun _ => (qv_aload_n C dX8_dependsDirectly_28 rfl (qv_iload_n C dX8_dependsDirectly_29 rfl (qv_iload_n C dX8_dependsDirectly_30 rfl (qv_callV C (rest := []) (cb := 0) (sb := 0) (t_X8_isNeeded hl v1 v2 s2) mw_X8_isNeeded lk_X8_114 in_X8_isNeeded se_X8_isNeeded rfl (by decide) (by decide) rfl rfl (Nat.le_of_ble_eq_true rfl) (by decide) dX8_dependsDirectly_31 rfl (qkI (fun r3 s3 => (qv_if_eq C (tgt := 41) dX8_dependsDirectly_34 (by decide) (fun _ => (qv_iconst C (v := (0 : Int32)) dX8_dependsDirectly_41 (by decide) (qv_zret! C hret (qbo_nar (by decide)) dX8_dependsDirectly_42)))
  (fun _ => (qv_iconst C (v := (1 : Int32)) dX8_dependsDirectly_37 (by decide) (qv_goto C (tgt := 42) dX8_dependsDirectly_38 (by decide) (qv_zret! C hret (qbo_nar (by decide)) dX8_dependsDirectly_42)))))))))))))))))
def f_X8_dependsDirectly (a1 : Int32) (a2 : Int32) (s0 : qS) : Option qO :=
  qbind (f_X8_isTask a1 s0) (qvI (fun r1 s1 =>
  (if r1 = 0 then j_X8_dependsDirectly_21  a1 a2 s1 else
  qbind (f_X8_isTask a2 s1) (qvI (fun r4 s4 =>
  (if r4 = 0 then j_X8_dependsDirectly_21  a1 a2 s4 else
  qbind (f_X8_goes (1 : Int32) s4) (qvI (fun r5 s5 =>
  (if r5 = 0 then (some (.inl (some (qI (0 : Int32))), s5)) else
  qbind (f_X8_isNeeded a1 a2 s5) (qvI (fun r6 s6 =>
  (if r6 = 0 then (some (.inl (some (qI (0 : Int32))), s6)) else
  (some (.inl (some (qI (1 : Int32))), s6))))) qE0))) qE0))) qE0))) qE0
set_option maxRecDepth 100000 in
set_option maxHeartbeats 4000000 in
theorem t_X8_dependsDirectly {g : qG} {l : Launch} (hl : l.stackTraces = false) (a1 : Int32) (a2 : Int32) (s0 : qS) : qM g l 5 0 0 (.code yX8_dependsDirectly cX8_dependsDirectly 3 (some .boolean)) yX8_dependsDirectly [qR 26 0, qI a1, qI a2] s0 (f_X8_dependsDirectly a1 a2 s0) := by
  refine qM_of (by decide +kernel) hl (List.forall_mem_cons.mpr ⟨rfl, (List.forall_mem_cons.mpr ⟨rfl, (List.forall_mem_cons.mpr ⟨rfl, (fun _ h => absurd h List.not_mem_nil)⟩)⟩)⟩) (Nat.le_of_ble_eq_true rfl) ?_
  intro p e s m args below meth c C hret ht
  show qV p l e _ s m args below meth c g _ _ _ _ _ 0 [some (qR 26 0), some (qI a1), some (qI a2)] [] s0
  exact (qv_aload_n C dX8_dependsDirectly_0 rfl (qv_aload_n C dX8_dependsDirectly_1 rfl (qv_iload_n C dX8_dependsDirectly_2 rfl (qv_callV C (rest := [qR 26 0]) (cb := 0) (sb := 0) (t_X8_isTask hl a1 s0) mw_X8_isTask lk_X8_79 in_X8_isTask se_X8_isTask rfl (by decide) (by decide) rfl rfl (Nat.le_of_ble_eq_true rfl) (by decide) dX8_dependsDirectly_3 rfl (qkI (fun r1 s1 => (qv_if_eq C (tgt := 21) dX8_dependsDirectly_6 (by decide) (fun _ => (qV.weak [true, true, true] (jt_X8_dependsDirectly_21 hl C hret ht  a1 a2 s1)))
  (fun _ => (qv_aload_n C dX8_dependsDirectly_9 rfl (qv_iload_n C dX8_dependsDirectly_10 rfl (qv_callV C (rest := [qR 26 0]) (cb := 0) (sb := 0) (t_X8_isTask hl a2 s1) mw_X8_isTask lk_X8_79 in_X8_isTask se_X8_isTask rfl (by decide) (by decide) rfl rfl (Nat.le_of_ble_eq_true rfl) (by decide) dX8_dependsDirectly_11 rfl (qkI (fun r4 s4 => (qv_if_eq C (tgt := 21) dX8_dependsDirectly_14 (by decide) (fun _ => (qV.weak [true, true, true] (jt_X8_dependsDirectly_21 hl C hret ht  a1 a2 s4)))
  (fun _ => (qv_iconst C (v := (1 : Int32)) dX8_dependsDirectly_17 (by decide) (qv_goto C (tgt := 22) dX8_dependsDirectly_18 (by decide) (qv_callV C (rest := []) (cb := 0) (sb := 0) (t_X8_goes hl (1 : Int32) s4) mw_X8_goes lk_X8_67 in_X8_goes se_X8_goes rfl (by decide) (by decide) rfl rfl (Nat.le_of_ble_eq_true rfl) (by decide) dX8_dependsDirectly_22 rfl (qkI (fun r5 s5 => (qv_if_eq C (tgt := 41) dX8_dependsDirectly_25 (by decide) (fun _ => (qv_iconst C (v := (0 : Int32)) dX8_dependsDirectly_41 (by decide) (qv_zret! C hret (qbo_nar (by decide)) dX8_dependsDirectly_42)))
  (fun _ => (qv_aload_n C dX8_dependsDirectly_28 rfl (qv_iload_n C dX8_dependsDirectly_29 rfl (qv_iload_n C dX8_dependsDirectly_30 rfl (qv_callV C (rest := []) (cb := 0) (sb := 0) (t_X8_isNeeded hl a1 a2 s5) mw_X8_isNeeded lk_X8_114 in_X8_isNeeded se_X8_isNeeded rfl (by decide) (by decide) rfl rfl (Nat.le_of_ble_eq_true rfl) (by decide) dX8_dependsDirectly_31 rfl (qkI (fun r6 s6 => (qv_if_eq C (tgt := 41) dX8_dependsDirectly_34 (by decide) (fun _ => (qv_iconst C (v := (0 : Int32)) dX8_dependsDirectly_41 (by decide) (qv_zret! C hret (qbo_nar (by decide)) dX8_dependsDirectly_42)))
  (fun _ => (qv_iconst C (v := (1 : Int32)) dX8_dependsDirectly_37 (by decide) (qv_goto C (tgt := 42) dX8_dependsDirectly_38 (by decide) (qv_zret! C hret (qbo_nar (by decide)) dX8_dependsDirectly_42)))))))))))))))))))))))))))))))))
def j_X8_isBehind_21 (v1 : Int32) (v2 : Int32) (s0 : qS) : Option qO :=
  qbind (f_X8_goes (0 : Int32) s0) (qvI (fun r2 s2 =>
  (if r2 = 0 then (some (.inl (some (qI (0 : Int32))), s2)) else
  qbind (f_X8_doesDepend v1 v2 s2) (qvI (fun r3 s3 =>
  (if r3 = 0 then (some (.inl (some (qI (0 : Int32))), s3)) else
  (some (.inl (some (qI (1 : Int32))), s3))))) qE0))) qE0
set_option maxRecDepth 100000 in
set_option maxHeartbeats 4000000 in
theorem jt_X8_isBehind_21 {p : Program} {l : Launch} {e : Env} {s : State} {m : MethodId} {args : Array Value} {below : List Frame} {meth : Method} {c : Code} {g : qG} (hl : l.stackTraces = false) (C : qC p l s m meth c cX8_isBehind 3 RX8 g) (hret : meth.sig.returnType = (some .boolean)) (ht : ∀ x ∈ c.exceptionTable.toList, False)  (v1 : Int32) (v2 : Int32) (s0 : qS) : qV p l e (qrm 6 0 0) s m args below meth c g 3 (qQf g below args s (qrm 6 0 0)) (j_X8_isBehind_21  v1 v2 s0) 0 0 21 [some (qR 26 0), some (qI v1), some (qI v2)] [qR 26 0] s0 :=
  (qv_iconst C (v := (0 : Int32)) dX8_isBehind_21 (by decide) (qv_callV C (rest := []) (cb := 0) (sb := 0) (t_X8_goes hl (0 : Int32) s0) mw_X8_goes lk_X8_67 in_X8_goes se_X8_goes rfl (by decide) (by decide) rfl rfl (Nat.le_of_ble_eq_true rfl) (by decide) dX8_isBehind_22 rfl (qkI (fun r2 s2 => (qv_if_eq C (tgt := 41) dX8_isBehind_25 (by decide) (fun _ => (qv_iconst C (v := (0 : Int32)) dX8_isBehind_41 (by decide) (qv_zret! C hret (qbo_nar (by decide)) dX8_isBehind_42)))
  (fun _ => (qv_aload_n C dX8_isBehind_28 rfl (qv_iload_n C dX8_isBehind_29 rfl (qv_iload_n C dX8_isBehind_30 rfl (qv_callV C (rest := []) (cb := 0) (sb := 0) (t_X8_doesDepend hl v1 v2 s2) mw_X8_doesDepend lk_X8_110 in_X8_doesDepend se_X8_doesDepend rfl (by decide) (by decide) rfl rfl (Nat.le_of_ble_eq_true rfl) (by decide) dX8_isBehind_31 rfl (qkI (fun r3 s3 => (qv_if_eq C (tgt := 41) dX8_isBehind_34 (by decide) (fun _ => (qv_iconst C (v := (0 : Int32)) dX8_isBehind_41 (by decide) (qv_zret! C hret (qbo_nar (by decide)) dX8_isBehind_42)))
  (fun _ => (qv_iconst C (v := (1 : Int32)) dX8_isBehind_37 (by decide) (qv_goto C (tgt := 42) dX8_isBehind_38 (by decide) (qv_zret! C hret (qbo_nar (by decide)) dX8_isBehind_42)))))))))))))))))
def f_X8_isBehind (a1 : Int32) (a2 : Int32) (s0 : qS) : Option qO :=
  qbind (f_X8_isTask a1 s0) (qvI (fun r1 s1 =>
  (if r1 = 0 then j_X8_isBehind_21  a1 a2 s1 else
  qbind (f_X8_isTask a2 s1) (qvI (fun r4 s4 =>
  (if r4 = 0 then j_X8_isBehind_21  a1 a2 s4 else
  qbind (f_X8_goes (1 : Int32) s4) (qvI (fun r5 s5 =>
  (if r5 = 0 then (some (.inl (some (qI (0 : Int32))), s5)) else
  qbind (f_X8_doesDepend a1 a2 s5) (qvI (fun r6 s6 =>
  (if r6 = 0 then (some (.inl (some (qI (0 : Int32))), s6)) else
  (some (.inl (some (qI (1 : Int32))), s6))))) qE0))) qE0))) qE0))) qE0
set_option maxRecDepth 100000 in
set_option maxHeartbeats 4000000 in
theorem t_X8_isBehind {g : qG} {l : Launch} (hl : l.stackTraces = false) (a1 : Int32) (a2 : Int32) (s0 : qS) : qM g l 6 0 0 (.code yX8_isBehind cX8_isBehind 3 (some .boolean)) yX8_isBehind [qR 26 0, qI a1, qI a2] s0 (f_X8_isBehind a1 a2 s0) := by
  refine qM_of (by decide +kernel) hl (List.forall_mem_cons.mpr ⟨rfl, (List.forall_mem_cons.mpr ⟨rfl, (List.forall_mem_cons.mpr ⟨rfl, (fun _ h => absurd h List.not_mem_nil)⟩)⟩)⟩) (Nat.le_of_ble_eq_true rfl) ?_
  intro p e s m args below meth c C hret ht
  show qV p l e _ s m args below meth c g _ _ _ _ _ 0 [some (qR 26 0), some (qI a1), some (qI a2)] [] s0
  exact (qv_aload_n C dX8_isBehind_0 rfl (qv_aload_n C dX8_isBehind_1 rfl (qv_iload_n C dX8_isBehind_2 rfl (qv_callV C (rest := [qR 26 0]) (cb := 0) (sb := 0) (t_X8_isTask hl a1 s0) mw_X8_isTask lk_X8_79 in_X8_isTask se_X8_isTask rfl (by decide) (by decide) rfl rfl (Nat.le_of_ble_eq_true rfl) (by decide) dX8_isBehind_3 rfl (qkI (fun r1 s1 => (qv_if_eq C (tgt := 21) dX8_isBehind_6 (by decide) (fun _ => (qV.weak [true, true, true] (jt_X8_isBehind_21 hl C hret ht  a1 a2 s1)))
  (fun _ => (qv_aload_n C dX8_isBehind_9 rfl (qv_iload_n C dX8_isBehind_10 rfl (qv_callV C (rest := [qR 26 0]) (cb := 0) (sb := 0) (t_X8_isTask hl a2 s1) mw_X8_isTask lk_X8_79 in_X8_isTask se_X8_isTask rfl (by decide) (by decide) rfl rfl (Nat.le_of_ble_eq_true rfl) (by decide) dX8_isBehind_11 rfl (qkI (fun r4 s4 => (qv_if_eq C (tgt := 21) dX8_isBehind_14 (by decide) (fun _ => (qV.weak [true, true, true] (jt_X8_isBehind_21 hl C hret ht  a1 a2 s4)))
  (fun _ => (qv_iconst C (v := (1 : Int32)) dX8_isBehind_17 (by decide) (qv_goto C (tgt := 22) dX8_isBehind_18 (by decide) (qv_callV C (rest := []) (cb := 0) (sb := 0) (t_X8_goes hl (1 : Int32) s4) mw_X8_goes lk_X8_67 in_X8_goes se_X8_goes rfl (by decide) (by decide) rfl rfl (Nat.le_of_ble_eq_true rfl) (by decide) dX8_isBehind_22 rfl (qkI (fun r5 s5 => (qv_if_eq C (tgt := 41) dX8_isBehind_25 (by decide) (fun _ => (qv_iconst C (v := (0 : Int32)) dX8_isBehind_41 (by decide) (qv_zret! C hret (qbo_nar (by decide)) dX8_isBehind_42)))
  (fun _ => (qv_aload_n C dX8_isBehind_28 rfl (qv_iload_n C dX8_isBehind_29 rfl (qv_iload_n C dX8_isBehind_30 rfl (qv_callV C (rest := []) (cb := 0) (sb := 0) (t_X8_doesDepend hl a1 a2 s5) mw_X8_doesDepend lk_X8_110 in_X8_doesDepend se_X8_doesDepend rfl (by decide) (by decide) rfl rfl (Nat.le_of_ble_eq_true rfl) (by decide) dX8_isBehind_31 rfl (qkI (fun r6 s6 => (qv_if_eq C (tgt := 41) dX8_isBehind_34 (by decide) (fun _ => (qv_iconst C (v := (0 : Int32)) dX8_isBehind_41 (by decide) (qv_zret! C hret (qbo_nar (by decide)) dX8_isBehind_42)))
  (fun _ => (qv_iconst C (v := (1 : Int32)) dX8_isBehind_37 (by decide) (qv_goto C (tgt := 42) dX8_isBehind_38 (by decide) (qv_zret! C hret (qbo_nar (by decide)) dX8_isBehind_42)))))))))))))))))))))))))))))))))
def f_X8_depends (a1 : Int32) (a2 : Int32) (s0 : qS) : Option qO :=
  qbind (f_X8_isBehind a1 a2 s0) (qvI (fun r1 s1 =>
  (if qbo r1 then some (.inl (some (qI r1)), s1) else none))) qE0
set_option maxRecDepth 100000 in
set_option maxHeartbeats 4000000 in
theorem t_X8_depends {g : qG} {l : Launch} (hl : l.stackTraces = false) (a1 : Int32) (a2 : Int32) (s0 : qS) : qM g l 7 0 0 (.code yX8_depends cX8_depends 3 (some .boolean)) yX8_depends [qR 26 0, qI a1, qI a2] s0 (f_X8_depends a1 a2 s0) := by
  refine qM_of (by decide +kernel) hl (List.forall_mem_cons.mpr ⟨rfl, (List.forall_mem_cons.mpr ⟨rfl, (List.forall_mem_cons.mpr ⟨rfl, (fun _ h => absurd h List.not_mem_nil)⟩)⟩)⟩) (Nat.le_of_ble_eq_true rfl) ?_
  intro p e s m args below meth c C hret ht
  show qV p l e _ s m args below meth c g _ _ _ _ _ 0 [some (qR 26 0), some (qI a1), some (qI a2)] [] s0
  exact (qv_aload_n C dX8_depends_0 rfl (qv_iload_n C dX8_depends_1 rfl (qv_iload_n C dX8_depends_2 rfl (qv_callV C (rest := []) (cb := 0) (sb := 0) (t_X8_isBehind hl a1 a2 s0) mw_X8_isBehind lk_X8_166 in_X8_isBehind se_X8_isBehind rfl (by decide) (by decide) rfl rfl (Nat.le_of_ble_eq_true rfl) (by decide) dX8_depends_3 rfl (qkI (fun r1 s1 => (qv_bret C hret dX8_depends_6)))))))
def f_X8_dependsByClosure (a1 : Int32) (a2 : Int32) (s0 : qS) : Option qO :=
  qbind (f_X8_isBehind a1 a2 s0) (qvI (fun r1 s1 =>
  (if qbo r1 then some (.inl (some (qI r1)), s1) else none))) qE0
set_option maxRecDepth 100000 in
set_option maxHeartbeats 4000000 in
theorem t_X8_dependsByClosure {g : qG} {l : Launch} (hl : l.stackTraces = false) (a1 : Int32) (a2 : Int32) (s0 : qS) : qM g l 7 0 0 (.code yX8_dependsByClosure cX8_dependsByClosure 3 (some .boolean)) yX8_dependsByClosure [qR 26 0, qI a1, qI a2] s0 (f_X8_dependsByClosure a1 a2 s0) := by
  refine qM_of (by decide +kernel) hl (List.forall_mem_cons.mpr ⟨rfl, (List.forall_mem_cons.mpr ⟨rfl, (List.forall_mem_cons.mpr ⟨rfl, (fun _ h => absurd h List.not_mem_nil)⟩)⟩)⟩) (Nat.le_of_ble_eq_true rfl) ?_
  intro p e s m args below meth c C hret ht
  show qV p l e _ s m args below meth c g _ _ _ _ _ 0 [some (qR 26 0), some (qI a1), some (qI a2)] [] s0
  exact (qv_aload_n C dX8_dependsByClosure_0 rfl (qv_iload_n C dX8_dependsByClosure_1 rfl (qv_iload_n C dX8_dependsByClosure_2 rfl (qv_callV C (rest := []) (cb := 0) (sb := 0) (t_X8_isBehind hl a1 a2 s0) mw_X8_isBehind lk_X8_166 in_X8_isBehind se_X8_isBehind rfl (by decide) (by decide) rfl rfl (Nat.le_of_ble_eq_true rfl) (by decide) dX8_dependsByClosure_3 rfl (qkI (fun r1 s1 => (qv_bret C hret dX8_dependsByClosure_6)))))))
def f_X8_neededCount (a1 : Int32) (s0 : qS) : Option qO :=
  qbind (f_X8_asks a1 (4 : Int32) s0) (qvI (fun r1 s1 =>
  qbind (f_J6_bitCount_0f7a4 r1 s1) (qvI (fun r2 s2 =>
  (some (.inl (some (qI r2)), s2)))) qE0)) qE0
set_option maxRecDepth 100000 in
set_option maxHeartbeats 4000000 in
theorem t_X8_neededCount {g : qG} {l : Launch} (hl : l.stackTraces = false) (a1 : Int32) (s0 : qS) : qM g l 5 0 0 (.code yX8_neededCount cX8_neededCount 2 (some .int)) yX8_neededCount [qR 26 0, qI a1] s0 (f_X8_neededCount a1 s0) := by
  refine qM_of (by decide +kernel) hl (List.forall_mem_cons.mpr ⟨rfl, (List.forall_mem_cons.mpr ⟨rfl, (fun _ h => absurd h List.not_mem_nil)⟩)⟩) (Nat.le_of_ble_eq_true rfl) ?_
  intro p e s m args below meth c C hret ht
  show qV p l e _ s m args below meth c g _ _ _ _ _ 0 [some (qR 26 0), some (qI a1)] [] s0
  exact (qv_aload_n C dX8_neededCount_0 rfl (qv_iload_n C dX8_neededCount_1 rfl (qv_iconst C (v := (4 : Int32)) dX8_neededCount_2 (by decide) (qv_callV C (rest := []) (cb := 0) (sb := 0) (t_X8_asks hl a1 (4 : Int32) s0) mw_X8_asks lk_X8_163 in_X8_asks se_X8_asks rfl (by decide) (by decide) rfl rfl (Nat.le_of_ble_eq_true rfl) (by decide) dX8_neededCount_3 rfl (qkI (fun r1 s1 => (qv_callS C (rest := []) (cb := 0) (sb := 0) (t_J6_bitCount_0f7a4 hl r1 s1) mw_J6_bitCount_0f7a4 lk_X8_169 st_J6_bitCount_0f7a4 rfl (Nat.le_of_ble_eq_true rfl) (by decide) dX8_neededCount_6 rfl (qkI (fun r2 s2 => (qv_iret C hret dX8_neededCount_9))))))))))
def b_X8_dependentCount_4 (rk4 : Int32 → Int32 → Int32 → qS → Option qO) (v1 : Int32) (v2 : Int32) (v3 : Int32) (s0 : qS) : Option qO :=
  (if (s0 27 0 0) ≤ v3 then qbind (f_X8_isTask v1 s0) (qvI (fun r1 s1 =>
  qbind (f_X8_goes r1 s1) (qvI (fun r2 s2 =>
  (if r2 = 0 then (some (.inl (some (qI (0 : Int32))), s2)) else
  (some (.inl (some (qI v2)), s2))))) qE0)) qE0 else
  qbind (f_X8_isTask v1 s0) (qvI (fun r3 s3 =>
  (if r3 = 0 then rk4 v1 (v2 + (0 : Int32)) (v3 + (1 : Int32)) s3 else
  qbind (f_X8_isNeeded v3 v1 s3) (qvI (fun r4 s4 =>
  (if r4 = 0 then rk4 v1 (v2 + (0 : Int32)) (v3 + (1 : Int32)) s4 else
  rk4 v1 (v2 + (1 : Int32)) (v3 + (1 : Int32)) s4))) qE0))) qE0)
def l_X8_dependentCount_4 : Nat → Int32 → Int32 → Int32 → qS → Option qO
  | 0, _, _, _, _ => none
  | n + 1, v1, v2, v3, s0 => b_X8_dependentCount_4  (l_X8_dependentCount_4  n) v1 v2 v3 s0
set_option maxRecDepth 100000 in
set_option maxHeartbeats 4000000 in
theorem bt_X8_dependentCount_4 {p : Program} {l : Launch} {e : Env} {s : State} {m : MethodId} {args : Array Value} {below : List Frame} {meth : Method} {c : Code} {g : qG} (hl : l.stackTraces = false) (C : qC p l s m meth c cX8_dependentCount 4 RX8 g) (hret : meth.sig.returnType = (some .int)) (ht : ∀ x ∈ c.exceptionTable.toList, False)  (rk4 : Int32 → Int32 → Int32 → qS → Option qO) (hrk4 : ∀ (v1 : Int32) (v2 : Int32) (v3 : Int32) (s0 : qS), qV p l e (qrm 5 0 0) s m args below meth c g 4 (qQf g below args s (qrm 5 0 0)) (rk4 v1 v2 v3 s0) 0 0 4 [some (qR 26 0), some (qI v1), some (qI v2), some (qI v3)] [] s0) (v1 : Int32) (v2 : Int32) (v3 : Int32) (s0 : qS) : qV p l e (qrm 5 0 0) s m args below meth c g 4 (qQf g below args s (qrm 5 0 0)) (b_X8_dependentCount_4  rk4 v1 v2 v3 s0) 0 0 4 [some (qR 26 0), some (qI v1), some (qI v2), some (qI v3)] [] s0 :=
  (qv_iload_n C dX8_dependentCount_4 rfl (qv_aload_n C dX8_dependentCount_5 rfl (qv_getR C (j2 := 0) fl_X8_9 cl_X8 rfl (by decide) (by decide) (by decide) rfl rfl dX8_dependentCount_6 (qv_iconst C (v := (0 : Int32)) dX8_dependentCount_9 (by decide) (qv_iald! C rfl (by decide) (by decide) (by decide) dX8_dependentCount_10 (qv_icmp_ge C (tgt := 45) dX8_dependentCount_11 (by decide) (fun _ => (qv_aload_n C dX8_dependentCount_45 rfl (qv_aload_n C dX8_dependentCount_46 rfl (qv_iload_n C dX8_dependentCount_47 rfl (qv_callV C (rest := [qR 26 0]) (cb := 0) (sb := 0) (t_X8_isTask hl v1 s0) mw_X8_isTask lk_X8_79 in_X8_isTask se_X8_isTask rfl (by decide) (by decide) rfl rfl (Nat.le_of_ble_eq_true rfl) (by decide) dX8_dependentCount_48 rfl (qkI (fun r1 s1 => (qv_callV C (rest := []) (cb := 0) (sb := 0) (t_X8_goes hl r1 s1) mw_X8_goes lk_X8_67 in_X8_goes se_X8_goes rfl (by decide) (by decide) rfl rfl (Nat.le_of_ble_eq_true rfl) (by decide) dX8_dependentCount_51 rfl (qkI (fun r2 s2 => (qv_if_eq C (tgt := 61) dX8_dependentCount_54 (by decide) (fun _ => (qv_iconst C (v := (0 : Int32)) dX8_dependentCount_61 (by decide) (qv_iret C hret dX8_dependentCount_62)))
  (fun _ => (qv_iload_n C dX8_dependentCount_57 rfl (qv_goto C (tgt := 62) dX8_dependentCount_58 (by decide) (qv_iret C hret dX8_dependentCount_62)))))))))))))))
  (fun _ => (qv_iload_n C dX8_dependentCount_14 rfl (qv_aload_n C dX8_dependentCount_15 rfl (qv_iload_n C dX8_dependentCount_16 rfl (qv_callV C (rest := [qI v2]) (cb := 0) (sb := 0) (t_X8_isTask hl v1 s0) mw_X8_isTask lk_X8_79 in_X8_isTask se_X8_isTask rfl (by decide) (by decide) rfl rfl (Nat.le_of_ble_eq_true rfl) (by decide) dX8_dependentCount_17 rfl (qkI (fun r3 s3 => (qv_if_eq C (tgt := 36) dX8_dependentCount_20 (by decide) (fun _ => (qv_iconst C (v := (0 : Int32)) dX8_dependentCount_36 (by decide) (qv_iadd C dX8_dependentCount_37 (qv_istore_n C dX8_dependentCount_38 (by decide) rfl (qv_iinc C (v := (v3 + (1 : Int32))) dX8_dependentCount_39 rfl rfl (by decide) rfl (qv_goto C (tgt := 4) dX8_dependentCount_42 (by decide) (qV.weak [true, true, true, true] (hrk4 v1 (v2 + (0 : Int32)) (v3 + (1 : Int32)) s3))))))))
  (fun _ => (qv_aload_n C dX8_dependentCount_23 rfl (qv_iload_n C dX8_dependentCount_24 rfl (qv_iload_n C dX8_dependentCount_25 rfl (qv_callV C (rest := [qI v2]) (cb := 0) (sb := 0) (t_X8_isNeeded hl v3 v1 s3) mw_X8_isNeeded lk_X8_114 in_X8_isNeeded se_X8_isNeeded rfl (by decide) (by decide) rfl rfl (Nat.le_of_ble_eq_true rfl) (by decide) dX8_dependentCount_26 rfl (qkI (fun r4 s4 => (qv_if_eq C (tgt := 36) dX8_dependentCount_29 (by decide) (fun _ => (qv_iconst C (v := (0 : Int32)) dX8_dependentCount_36 (by decide) (qv_iadd C dX8_dependentCount_37 (qv_istore_n C dX8_dependentCount_38 (by decide) rfl (qv_iinc C (v := (v3 + (1 : Int32))) dX8_dependentCount_39 rfl rfl (by decide) rfl (qv_goto C (tgt := 4) dX8_dependentCount_42 (by decide) (qV.weak [true, true, true, true] (hrk4 v1 (v2 + (0 : Int32)) (v3 + (1 : Int32)) s4))))))))
  (fun _ => (qv_iconst C (v := (1 : Int32)) dX8_dependentCount_32 (by decide) (qv_goto C (tgt := 37) dX8_dependentCount_33 (by decide) (qv_iadd C dX8_dependentCount_37 (qv_istore_n C dX8_dependentCount_38 (by decide) rfl (qv_iinc C (v := (v3 + (1 : Int32))) dX8_dependentCount_39 rfl rfl (by decide) rfl (qv_goto C (tgt := 4) dX8_dependentCount_42 (by decide) (qV.weak [true, true, true, true] (hrk4 v1 (v2 + (1 : Int32)) (v3 + (1 : Int32)) s4)))))))))))))))))))))))))))))))
theorem lt_X8_dependentCount_4 {p : Program} {l : Launch} {e : Env} {s : State} {m : MethodId} {args : Array Value} {below : List Frame} {meth : Method} {c : Code} {g : qG} (hl : l.stackTraces = false) (C : qC p l s m meth c cX8_dependentCount 4 RX8 g) (hret : meth.sig.returnType = (some .int)) (ht : ∀ x ∈ c.exceptionTable.toList, False)  : ∀ (n : Nat) (v1 : Int32) (v2 : Int32) (v3 : Int32) (s0 : qS), qV p l e (qrm 5 0 0) s m args below meth c g 4 (qQf g below args s (qrm 5 0 0)) (l_X8_dependentCount_4  n v1 v2 v3 s0) 0 0 4 [some (qR 26 0), some (qI v1), some (qI v2), some (qI v3)] [] s0
  | 0, _, _, _, _ => qV.no
  | n + 1, v1, v2, v3, s0 => bt_X8_dependentCount_4 hl C hret ht  _ (lt_X8_dependentCount_4 hl C hret ht  n) v1 v2 v3 s0
def f_X8_dependentCount (a1 : Int32) (s0 : qS) : Option qO :=
  l_X8_dependentCount_4  qFU a1 (0 : Int32) (0 : Int32) s0
set_option maxRecDepth 100000 in
set_option maxHeartbeats 4000000 in
theorem t_X8_dependentCount {g : qG} {l : Launch} (hl : l.stackTraces = false) (a1 : Int32) (s0 : qS) : qM g l 5 0 0 (.code yX8_dependentCount cX8_dependentCount 4 (some .int)) yX8_dependentCount [qR 26 0, qI a1] s0 (f_X8_dependentCount a1 s0) := by
  refine qM_of (by decide +kernel) hl (List.forall_mem_cons.mpr ⟨rfl, (List.forall_mem_cons.mpr ⟨rfl, (fun _ h => absurd h List.not_mem_nil)⟩)⟩) (Nat.le_of_ble_eq_true rfl) ?_
  intro p e s m args below meth c C hret ht
  show qV p l e _ s m args below meth c g _ _ _ _ _ 0 [some (qR 26 0), some (qI a1), none, none] [] s0
  exact (qv_iconst C (v := (0 : Int32)) dX8_dependentCount_0 (by decide) (qv_istore_n C dX8_dependentCount_1 (by decide) rfl (qv_iconst C (v := (0 : Int32)) dX8_dependentCount_2 (by decide) (qv_istore_n C dX8_dependentCount_3 (by decide) rfl (qV.weak [true, true, true, true] (lt_X8_dependentCount_4 hl C hret ht  qFU a1 (0 : Int32) (0 : Int32) s0))))))
def b_X8_taskInOrder_31 (rk7 : Int32 → Int32 → Int32 → Int32 → qS → Option qO) (rk31 : Int32 → Int32 → Int32 → Int32 → Int32 → Int32 → qS → Option qO) (v1 : Int32) (v2 : Int32) (v3 : Int32) (v4 : Int32) (v5 : Int32) (v6 : Int32) (s0 : qS) : Option qO :=
  (if v6 < 0 then (if v4 = v1 then rk7 v1 (v2 ||| ((1 : Int32) <<< (v5 &&& 31))) v5 (v4 + (1 : Int32)) s0 else
  rk7 v1 (v2 ||| ((1 : Int32) <<< (v5 &&& 31))) v3 (v4 + (1 : Int32)) s0) else
  (if ((v2 >>> (v6 &&& 31)) &&& (1 : Int32)) = 0 then qbind (f_X8_of v6 (4 : Int32) s0) (qvI (fun r3 s3 =>
  (if (r3 &&& (v2 ^^^ (-1 : Int32))) = 0 then rk31 v1 v2 v3 v4 v6 (v6 + (-1 : Int32)) s3 else
  rk31 v1 v2 v3 v4 v5 (v6 + (-1 : Int32)) s3))) qE0 else
  rk31 v1 v2 v3 v4 v5 (v6 + (-1 : Int32)) s0))
def l_X8_taskInOrder_31 (rk7 : Int32 → Int32 → Int32 → Int32 → qS → Option qO) : Nat → Int32 → Int32 → Int32 → Int32 → Int32 → Int32 → qS → Option qO
  | 0, _, _, _, _, _, _, _ => none
  | n + 1, v1, v2, v3, v4, v5, v6, s0 => b_X8_taskInOrder_31  rk7 (l_X8_taskInOrder_31  rk7 n) v1 v2 v3 v4 v5 v6 s0
set_option maxRecDepth 100000 in
set_option maxHeartbeats 4000000 in
theorem bt_X8_taskInOrder_31 {p : Program} {l : Launch} {e : Env} {s : State} {m : MethodId} {args : Array Value} {below : List Frame} {meth : Method} {c : Code} {g : qG} (hl : l.stackTraces = false) (C : qC p l s m meth c cX8_taskInOrder 7 RX8 g) (hret : meth.sig.returnType = (some .int)) (ht : ∀ x ∈ c.exceptionTable.toList, False)  (rk7 : Int32 → Int32 → Int32 → Int32 → qS → Option qO) (hrk7 : ∀ (v1 : Int32) (v2 : Int32) (v3 : Int32) (v4 : Int32) (s0 : qS), qV p l e (qrm 4 0 0) s m args below meth c g 7 (qQf g below args s (qrm 4 0 0)) (rk7 v1 v2 v3 v4 s0) 0 0 7 [some (qR 26 0), some (qI v1), some (qI v2), some (qI v3), some (qI v4), none, none] [] s0) (rk31 : Int32 → Int32 → Int32 → Int32 → Int32 → Int32 → qS → Option qO) (hrk31 : ∀ (v1 : Int32) (v2 : Int32) (v3 : Int32) (v4 : Int32) (v5 : Int32) (v6 : Int32) (s0 : qS), qV p l e (qrm 4 0 0) s m args below meth c g 7 (qQf g below args s (qrm 4 0 0)) (rk31 v1 v2 v3 v4 v5 v6 s0) 0 0 31 [some (qR 26 0), some (qI v1), some (qI v2), some (qI v3), some (qI v4), some (qI v5), some (qI v6)] [] s0) (v1 : Int32) (v2 : Int32) (v3 : Int32) (v4 : Int32) (v5 : Int32) (v6 : Int32) (s0 : qS) : qV p l e (qrm 4 0 0) s m args below meth c g 7 (qQf g below args s (qrm 4 0 0)) (b_X8_taskInOrder_31  rk7 rk31 v1 v2 v3 v4 v5 v6 s0) 0 0 31 [some (qR 26 0), some (qI v1), some (qI v2), some (qI v3), some (qI v4), some (qI v5), some (qI v6)] [] s0 :=
  (qv_iload C dX8_taskInOrder_31 rfl (qv_if_lt C (tgt := 74) dX8_taskInOrder_33 (by decide) (fun _ => (qv_iload_n C dX8_taskInOrder_74 rfl (qv_iconst C (v := (1 : Int32)) dX8_taskInOrder_75 (by decide) (qv_iload C dX8_taskInOrder_76 rfl (qv_ishl C dX8_taskInOrder_78 (qv_ior C dX8_taskInOrder_79 (qv_istore_n C dX8_taskInOrder_80 (by decide) rfl (qv_iload C dX8_taskInOrder_81 rfl (qv_iload_n C dX8_taskInOrder_83 rfl (qv_icmp_ne C (tgt := 92) dX8_taskInOrder_84 (by decide) (fun _ => (qv_iload C dX8_taskInOrder_87 rfl (qv_goto C (tgt := 93) dX8_taskInOrder_89 (by decide) (qv_istore_n C dX8_taskInOrder_93 (by decide) rfl (qv_iinc C (v := (v4 + (1 : Int32))) dX8_taskInOrder_94 rfl rfl (by decide) rfl (qv_goto C (tgt := 7) dX8_taskInOrder_97 (by decide) (qV.weak [true, true, true, true, true, false, false] (hrk7 v1 (v2 ||| ((1 : Int32) <<< (v5 &&& 31))) v5 (v4 + (1 : Int32)) s0))))))))
  (fun _ => (qv_iload_n C dX8_taskInOrder_92 rfl (qv_istore_n C dX8_taskInOrder_93 (by decide) rfl (qv_iinc C (v := (v4 + (1 : Int32))) dX8_taskInOrder_94 rfl rfl (by decide) rfl (qv_goto C (tgt := 7) dX8_taskInOrder_97 (by decide) (qV.weak [true, true, true, true, true, false, false] (hrk7 v1 (v2 ||| ((1 : Int32) <<< (v5 &&& 31))) v3 (v4 + (1 : Int32)) s0)))))))))))))))))
  (fun _ => (qv_iload_n C dX8_taskInOrder_36 rfl (qv_iload C dX8_taskInOrder_37 rfl (qv_ishr C dX8_taskInOrder_39 (qv_iconst C (v := (1 : Int32)) dX8_taskInOrder_40 (by decide) (qv_iand C dX8_taskInOrder_41 (qv_if_ne C (tgt := 64) dX8_taskInOrder_42 (by decide) (fun _ => (qv_aload_n C dX8_taskInOrder_45 rfl (qv_iload C dX8_taskInOrder_46 rfl (qv_iconst C (v := (4 : Int32)) dX8_taskInOrder_48 (by decide) (qv_callV C (rest := []) (cb := 0) (sb := 0) (t_X8_of hl v6 (4 : Int32) s0) mw_X8_of lk_X8_87 in_X8_of se_X8_of rfl (by decide) (by decide) rfl rfl (Nat.le_of_ble_eq_true rfl) (by decide) dX8_taskInOrder_49 rfl (qkI (fun r3 s3 => (qv_iload_n C dX8_taskInOrder_52 rfl (qv_iconst C (v := (-1 : Int32)) dX8_taskInOrder_53 (by decide) (qv_ixor C dX8_taskInOrder_54 (qv_iand C dX8_taskInOrder_55 (qv_if_ne C (tgt := 64) dX8_taskInOrder_56 (by decide) (fun _ => (qv_iload C dX8_taskInOrder_59 rfl (qv_goto C (tgt := 66) dX8_taskInOrder_61 (by decide) (qv_istore C dX8_taskInOrder_66 (by decide) rfl (qv_iinc C (v := (v6 + (-1 : Int32))) dX8_taskInOrder_68 rfl rfl (by decide) rfl (qv_goto C (tgt := 31) dX8_taskInOrder_71 (by decide) (qV.weak [true, true, true, true, true, true, true] (hrk31 v1 v2 v3 v4 v6 (v6 + (-1 : Int32)) s3))))))))
  (fun _ => (qv_iload C dX8_taskInOrder_64 rfl (qv_istore C dX8_taskInOrder_66 (by decide) rfl (qv_iinc C (v := (v6 + (-1 : Int32))) dX8_taskInOrder_68 rfl rfl (by decide) rfl (qv_goto C (tgt := 31) dX8_taskInOrder_71 (by decide) (qV.weak [true, true, true, true, true, true, true] (hrk31 v1 v2 v3 v4 v5 (v6 + (-1 : Int32)) s3)))))))))))))))))))
  (fun _ => (qv_iload C dX8_taskInOrder_64 rfl (qv_istore C dX8_taskInOrder_66 (by decide) rfl (qv_iinc C (v := (v6 + (-1 : Int32))) dX8_taskInOrder_68 rfl rfl (by decide) rfl (qv_goto C (tgt := 31) dX8_taskInOrder_71 (by decide) (qV.weak [true, true, true, true, true, true, true] (hrk31 v1 v2 v3 v4 v5 (v6 + (-1 : Int32)) s0))))))))))))))))
theorem lt_X8_taskInOrder_31 {p : Program} {l : Launch} {e : Env} {s : State} {m : MethodId} {args : Array Value} {below : List Frame} {meth : Method} {c : Code} {g : qG} (hl : l.stackTraces = false) (C : qC p l s m meth c cX8_taskInOrder 7 RX8 g) (hret : meth.sig.returnType = (some .int)) (ht : ∀ x ∈ c.exceptionTable.toList, False)  (rk7 : Int32 → Int32 → Int32 → Int32 → qS → Option qO) (hrk7 : ∀ (v1 : Int32) (v2 : Int32) (v3 : Int32) (v4 : Int32) (s0 : qS), qV p l e (qrm 4 0 0) s m args below meth c g 7 (qQf g below args s (qrm 4 0 0)) (rk7 v1 v2 v3 v4 s0) 0 0 7 [some (qR 26 0), some (qI v1), some (qI v2), some (qI v3), some (qI v4), none, none] [] s0) : ∀ (n : Nat) (v1 : Int32) (v2 : Int32) (v3 : Int32) (v4 : Int32) (v5 : Int32) (v6 : Int32) (s0 : qS), qV p l e (qrm 4 0 0) s m args below meth c g 7 (qQf g below args s (qrm 4 0 0)) (l_X8_taskInOrder_31  rk7 n v1 v2 v3 v4 v5 v6 s0) 0 0 31 [some (qR 26 0), some (qI v1), some (qI v2), some (qI v3), some (qI v4), some (qI v5), some (qI v6)] [] s0
  | 0, _, _, _, _, _, _, _ => qV.no
  | n + 1, v1, v2, v3, v4, v5, v6, s0 => bt_X8_taskInOrder_31 hl C hret ht  rk7 hrk7 _ (lt_X8_taskInOrder_31 hl C hret ht  rk7 hrk7 n) v1 v2 v3 v4 v5 v6 s0
def b_X8_taskInOrder_7 (rk7 : Int32 → Int32 → Int32 → Int32 → qS → Option qO) (v1 : Int32) (v2 : Int32) (v3 : Int32) (v4 : Int32) (s0 : qS) : Option qO :=
  (if (s0 27 0 0) ≤ v4 then (if v3 = (-1 : Int32) then qbind (f_X8_goes (0 : Int32) s0) (qvI (fun r1 s1 =>
  (if r1 = 0 then (some (.inl (some (qI (0 : Int32))), s1)) else
  (some (.inl (some (qI v3)), s1))))) qE0 else
  qbind (f_X8_goes (1 : Int32) s0) (qvI (fun r2 s2 =>
  (if r2 = 0 then (some (.inl (some (qI (0 : Int32))), s2)) else
  (some (.inl (some (qI v3)), s2))))) qE0) else
  l_X8_taskInOrder_31  rk7 qFU v1 v2 v3 v4 (-1 : Int32) ((s0 27 0 0) - (1 : Int32)) s0)
def l_X8_taskInOrder_7 : Nat → Int32 → Int32 → Int32 → Int32 → qS → Option qO
  | 0, _, _, _, _, _ => none
  | n + 1, v1, v2, v3, v4, s0 => b_X8_taskInOrder_7  (l_X8_taskInOrder_7  n) v1 v2 v3 v4 s0
set_option maxRecDepth 100000 in
set_option maxHeartbeats 4000000 in
theorem bt_X8_taskInOrder_7 {p : Program} {l : Launch} {e : Env} {s : State} {m : MethodId} {args : Array Value} {below : List Frame} {meth : Method} {c : Code} {g : qG} (hl : l.stackTraces = false) (C : qC p l s m meth c cX8_taskInOrder 7 RX8 g) (hret : meth.sig.returnType = (some .int)) (ht : ∀ x ∈ c.exceptionTable.toList, False)  (rk7 : Int32 → Int32 → Int32 → Int32 → qS → Option qO) (hrk7 : ∀ (v1 : Int32) (v2 : Int32) (v3 : Int32) (v4 : Int32) (s0 : qS), qV p l e (qrm 4 0 0) s m args below meth c g 7 (qQf g below args s (qrm 4 0 0)) (rk7 v1 v2 v3 v4 s0) 0 0 7 [some (qR 26 0), some (qI v1), some (qI v2), some (qI v3), some (qI v4), none, none] [] s0) (v1 : Int32) (v2 : Int32) (v3 : Int32) (v4 : Int32) (s0 : qS) : qV p l e (qrm 4 0 0) s m args below meth c g 7 (qQf g below args s (qrm 4 0 0)) (b_X8_taskInOrder_7  rk7 v1 v2 v3 v4 s0) 0 0 7 [some (qR 26 0), some (qI v1), some (qI v2), some (qI v3), some (qI v4), none, none] [] s0 :=
  (qv_iload C dX8_taskInOrder_7 rfl (qv_aload_n C dX8_taskInOrder_9 rfl (qv_getR C (j2 := 0) fl_X8_9 cl_X8 rfl (by decide) (by decide) (by decide) rfl rfl dX8_taskInOrder_10 (qv_iconst C (v := (0 : Int32)) dX8_taskInOrder_13 (by decide) (qv_iald! C rfl (by decide) (by decide) (by decide) dX8_taskInOrder_14 (qv_icmp_ge C (tgt := 100) dX8_taskInOrder_15 (by decide) (fun _ => (qv_aload_n C dX8_taskInOrder_100 rfl (qv_iload_n C dX8_taskInOrder_101 rfl (qv_iconst C (v := (-1 : Int32)) dX8_taskInOrder_102 (by decide) (qv_icmp_eq C (tgt := 110) dX8_taskInOrder_103 (by decide) (fun _ => (qv_iconst C (v := (0 : Int32)) dX8_taskInOrder_110 (by decide) (qv_callV C (rest := []) (cb := 0) (sb := 0) (t_X8_goes hl (0 : Int32) s0) mw_X8_goes lk_X8_67 in_X8_goes se_X8_goes rfl (by decide) (by decide) rfl rfl (Nat.le_of_ble_eq_true rfl) (by decide) dX8_taskInOrder_111 rfl (qkI (fun r1 s1 => (qv_if_eq C (tgt := 121) dX8_taskInOrder_114 (by decide) (fun _ => (qv_iconst C (v := (0 : Int32)) dX8_taskInOrder_121 (by decide) (qv_iret C hret dX8_taskInOrder_122)))
  (fun _ => (qv_iload_n C dX8_taskInOrder_117 rfl (qv_goto C (tgt := 122) dX8_taskInOrder_118 (by decide) (qv_iret C hret dX8_taskInOrder_122))))))))))
  (fun _ => (qv_iconst C (v := (1 : Int32)) dX8_taskInOrder_106 (by decide) (qv_goto C (tgt := 111) dX8_taskInOrder_107 (by decide) (qv_callV C (rest := []) (cb := 0) (sb := 0) (t_X8_goes hl (1 : Int32) s0) mw_X8_goes lk_X8_67 in_X8_goes se_X8_goes rfl (by decide) (by decide) rfl rfl (Nat.le_of_ble_eq_true rfl) (by decide) dX8_taskInOrder_111 rfl (qkI (fun r2 s2 => (qv_if_eq C (tgt := 121) dX8_taskInOrder_114 (by decide) (fun _ => (qv_iconst C (v := (0 : Int32)) dX8_taskInOrder_121 (by decide) (qv_iret C hret dX8_taskInOrder_122)))
  (fun _ => (qv_iload_n C dX8_taskInOrder_117 rfl (qv_goto C (tgt := 122) dX8_taskInOrder_118 (by decide) (qv_iret C hret dX8_taskInOrder_122))))))))))))))))
  (fun _ => (qv_iconst C (v := (-1 : Int32)) dX8_taskInOrder_18 (by decide) (qv_istore C dX8_taskInOrder_19 (by decide) rfl (qv_aload_n C dX8_taskInOrder_21 rfl (qv_getR C (j2 := 0) fl_X8_9 cl_X8 rfl (by decide) (by decide) (by decide) rfl rfl dX8_taskInOrder_22 (qv_iconst C (v := (0 : Int32)) dX8_taskInOrder_25 (by decide) (qv_iald! C rfl (by decide) (by decide) (by decide) dX8_taskInOrder_26 (qv_iconst C (v := (1 : Int32)) dX8_taskInOrder_27 (by decide) (qv_isub C dX8_taskInOrder_28 (qv_istore C dX8_taskInOrder_29 (by decide) rfl (qV.weak [true, true, true, true, true, true, true] (lt_X8_taskInOrder_31 hl C hret ht  rk7 hrk7 qFU v1 v2 v3 v4 (-1 : Int32) ((s0 27 0 0) - (1 : Int32)) s0))))))))))))))))))
theorem lt_X8_taskInOrder_7 {p : Program} {l : Launch} {e : Env} {s : State} {m : MethodId} {args : Array Value} {below : List Frame} {meth : Method} {c : Code} {g : qG} (hl : l.stackTraces = false) (C : qC p l s m meth c cX8_taskInOrder 7 RX8 g) (hret : meth.sig.returnType = (some .int)) (ht : ∀ x ∈ c.exceptionTable.toList, False)  : ∀ (n : Nat) (v1 : Int32) (v2 : Int32) (v3 : Int32) (v4 : Int32) (s0 : qS), qV p l e (qrm 4 0 0) s m args below meth c g 7 (qQf g below args s (qrm 4 0 0)) (l_X8_taskInOrder_7  n v1 v2 v3 v4 s0) 0 0 7 [some (qR 26 0), some (qI v1), some (qI v2), some (qI v3), some (qI v4), none, none] [] s0
  | 0, _, _, _, _, _ => qV.no
  | n + 1, v1, v2, v3, v4, s0 => bt_X8_taskInOrder_7 hl C hret ht  _ (lt_X8_taskInOrder_7 hl C hret ht  n) v1 v2 v3 v4 s0
def f_X8_taskInOrder (a1 : Int32) (s0 : qS) : Option qO :=
  l_X8_taskInOrder_7  qFU a1 (0 : Int32) (-1 : Int32) (0 : Int32) s0
set_option maxRecDepth 100000 in
set_option maxHeartbeats 4000000 in
theorem t_X8_taskInOrder {g : qG} {l : Launch} (hl : l.stackTraces = false) (a1 : Int32) (s0 : qS) : qM g l 4 0 0 (.code yX8_taskInOrder cX8_taskInOrder 7 (some .int)) yX8_taskInOrder [qR 26 0, qI a1] s0 (f_X8_taskInOrder a1 s0) := by
  refine qM_of (by decide +kernel) hl (List.forall_mem_cons.mpr ⟨rfl, (List.forall_mem_cons.mpr ⟨rfl, (fun _ h => absurd h List.not_mem_nil)⟩)⟩) (Nat.le_of_ble_eq_true rfl) ?_
  intro p e s m args below meth c C hret ht
  show qV p l e _ s m args below meth c g _ _ _ _ _ 0 [some (qR 26 0), some (qI a1), none, none, none, none, none] [] s0
  exact (qv_iconst C (v := (0 : Int32)) dX8_taskInOrder_0 (by decide) (qv_istore_n C dX8_taskInOrder_1 (by decide) rfl (qv_iconst C (v := (-1 : Int32)) dX8_taskInOrder_2 (by decide) (qv_istore_n C dX8_taskInOrder_3 (by decide) rfl (qv_iconst C (v := (0 : Int32)) dX8_taskInOrder_4 (by decide) (qv_istore C dX8_taskInOrder_5 (by decide) rfl (qV.weak [true, true, true, true, true, false, false] (lt_X8_taskInOrder_7 hl C hret ht  qFU a1 (0 : Int32) (-1 : Int32) (0 : Int32) s0))))))))
def b_X8_work_4 (rk4 : Int32 → Int32 → Int32 → qS → Option qO) (v1 : Int32) (v2 : Int32) (v3 : Int32) (s0 : qS) : Option qO :=
  (if (s0 27 0 0) ≤ v3 then qbind (f_X8_isResource v1 s0) (qvI (fun r1 s1 =>
  qbind (f_X8_goes r1 s1) (qvI (fun r2 s2 =>
  (if r2 = 0 then (some (.inl (some (qI (0 : Int32))), s2)) else
  (some (.inl (some (qI v2)), s2))))) qE0)) qE0 else
  qbind (f_X8_of v3 (1 : Int32) s0) (qvI (fun r3 s3 =>
  (if r3 = v1 then qbind (f_X8_of v3 (0 : Int32) s3) (qvI (fun r4 s4 =>
  qbind (f_X8_of v3 (2 : Int32) s4) (qvI (fun r5 s5 =>
  rk4 v1 (v2 + (r4 * r5)) (v3 + (1 : Int32)) s5)) qE0)) qE0 else
  rk4 v1 (v2 + (0 : Int32)) (v3 + (1 : Int32)) s3))) qE0)
def l_X8_work_4 : Nat → Int32 → Int32 → Int32 → qS → Option qO
  | 0, _, _, _, _ => none
  | n + 1, v1, v2, v3, s0 => b_X8_work_4  (l_X8_work_4  n) v1 v2 v3 s0
set_option maxRecDepth 100000 in
set_option maxHeartbeats 4000000 in
theorem bt_X8_work_4 {p : Program} {l : Launch} {e : Env} {s : State} {m : MethodId} {args : Array Value} {below : List Frame} {meth : Method} {c : Code} {g : qG} (hl : l.stackTraces = false) (C : qC p l s m meth c cX8_work 4 RX8 g) (hret : meth.sig.returnType = (some .int)) (ht : ∀ x ∈ c.exceptionTable.toList, False)  (rk4 : Int32 → Int32 → Int32 → qS → Option qO) (hrk4 : ∀ (v1 : Int32) (v2 : Int32) (v3 : Int32) (s0 : qS), qV p l e (qrm 4 0 0) s m args below meth c g 4 (qQf g below args s (qrm 4 0 0)) (rk4 v1 v2 v3 s0) 0 0 4 [some (qR 26 0), some (qI v1), some (qI v2), some (qI v3)] [] s0) (v1 : Int32) (v2 : Int32) (v3 : Int32) (s0 : qS) : qV p l e (qrm 4 0 0) s m args below meth c g 4 (qQf g below args s (qrm 4 0 0)) (b_X8_work_4  rk4 v1 v2 v3 s0) 0 0 4 [some (qR 26 0), some (qI v1), some (qI v2), some (qI v3)] [] s0 :=
  (qv_iload_n C dX8_work_4 rfl (qv_aload_n C dX8_work_5 rfl (qv_getR C (j2 := 0) fl_X8_9 cl_X8 rfl (by decide) (by decide) (by decide) rfl rfl dX8_work_6 (qv_iconst C (v := (0 : Int32)) dX8_work_9 (by decide) (qv_iald! C rfl (by decide) (by decide) (by decide) dX8_work_10 (qv_icmp_ge C (tgt := 50) dX8_work_11 (by decide) (fun _ => (qv_aload_n C dX8_work_50 rfl (qv_iload_n C dX8_work_51 rfl (qv_callS C (rest := [qR 26 0]) (cb := 0) (sb := 0) (t_X8_isResource hl v1 s0) mw_X8_isResource lk_X8_94 st_X8_isResource rfl (Nat.le_of_ble_eq_true rfl) (by decide) dX8_work_52 rfl (qkI (fun r1 s1 => (qv_callV C (rest := []) (cb := 0) (sb := 0) (t_X8_goes hl r1 s1) mw_X8_goes lk_X8_67 in_X8_goes se_X8_goes rfl (by decide) (by decide) rfl rfl (Nat.le_of_ble_eq_true rfl) (by decide) dX8_work_55 rfl (qkI (fun r2 s2 => (qv_if_eq C (tgt := 65) dX8_work_58 (by decide) (fun _ => (qv_iconst C (v := (0 : Int32)) dX8_work_65 (by decide) (qv_iret C hret dX8_work_66)))
  (fun _ => (qv_iload_n C dX8_work_61 rfl (qv_goto C (tgt := 66) dX8_work_62 (by decide) (qv_iret C hret dX8_work_66))))))))))))))
  (fun _ => (qv_iload_n C dX8_work_14 rfl (qv_aload_n C dX8_work_15 rfl (qv_iload_n C dX8_work_16 rfl (qv_iconst C (v := (1 : Int32)) dX8_work_17 (by decide) (qv_callV C (rest := [qI v2]) (cb := 0) (sb := 0) (t_X8_of hl v3 (1 : Int32) s0) mw_X8_of lk_X8_87 in_X8_of se_X8_of rfl (by decide) (by decide) rfl rfl (Nat.le_of_ble_eq_true rfl) (by decide) dX8_work_18 rfl (qkI (fun r3 s3 => (qv_iload_n C dX8_work_21 rfl (qv_icmp_ne C (tgt := 41) dX8_work_22 (by decide) (fun _ => (qv_aload_n C dX8_work_25 rfl (qv_iload_n C dX8_work_26 rfl (qv_iconst C (v := (0 : Int32)) dX8_work_27 (by decide) (qv_callV C (rest := [qI v2]) (cb := 0) (sb := 0) (t_X8_of hl v3 (0 : Int32) s3) mw_X8_of lk_X8_87 in_X8_of se_X8_of rfl (by decide) (by decide) rfl rfl (Nat.le_of_ble_eq_true rfl) (by decide) dX8_work_28 rfl (qkI (fun r4 s4 => (qv_aload_n C dX8_work_31 rfl (qv_iload_n C dX8_work_32 rfl (qv_iconst C (v := (2 : Int32)) dX8_work_33 (by decide) (qv_callV C (rest := [qI r4, qI v2]) (cb := 0) (sb := 0) (t_X8_of hl v3 (2 : Int32) s4) mw_X8_of lk_X8_87 in_X8_of se_X8_of rfl (by decide) (by decide) rfl rfl (Nat.le_of_ble_eq_true rfl) (by decide) dX8_work_34 rfl (qkI (fun r5 s5 => (qv_imul C dX8_work_37 (qv_goto C (tgt := 42) dX8_work_38 (by decide) (qv_iadd C dX8_work_42 (qv_istore_n C dX8_work_43 (by decide) rfl (qv_iinc C (v := (v3 + (1 : Int32))) dX8_work_44 rfl rfl (by decide) rfl (qv_goto C (tgt := 4) dX8_work_47 (by decide) (qV.weak [true, true, true, true] (hrk4 v1 (v2 + (r4 * r5)) (v3 + (1 : Int32)) s5)))))))))))))))))))))
  (fun _ => (qv_iconst C (v := (0 : Int32)) dX8_work_41 (by decide) (qv_iadd C dX8_work_42 (qv_istore_n C dX8_work_43 (by decide) rfl (qv_iinc C (v := (v3 + (1 : Int32))) dX8_work_44 rfl rfl (by decide) rfl (qv_goto C (tgt := 4) dX8_work_47 (by decide) (qV.weak [true, true, true, true] (hrk4 v1 (v2 + (0 : Int32)) (v3 + (1 : Int32)) s3))))))))))))))))))))))))
theorem lt_X8_work_4 {p : Program} {l : Launch} {e : Env} {s : State} {m : MethodId} {args : Array Value} {below : List Frame} {meth : Method} {c : Code} {g : qG} (hl : l.stackTraces = false) (C : qC p l s m meth c cX8_work 4 RX8 g) (hret : meth.sig.returnType = (some .int)) (ht : ∀ x ∈ c.exceptionTable.toList, False)  : ∀ (n : Nat) (v1 : Int32) (v2 : Int32) (v3 : Int32) (s0 : qS), qV p l e (qrm 4 0 0) s m args below meth c g 4 (qQf g below args s (qrm 4 0 0)) (l_X8_work_4  n v1 v2 v3 s0) 0 0 4 [some (qR 26 0), some (qI v1), some (qI v2), some (qI v3)] [] s0
  | 0, _, _, _, _ => qV.no
  | n + 1, v1, v2, v3, s0 => bt_X8_work_4 hl C hret ht  _ (lt_X8_work_4 hl C hret ht  n) v1 v2 v3 s0
def f_X8_work (a1 : Int32) (s0 : qS) : Option qO :=
  l_X8_work_4  qFU a1 (0 : Int32) (0 : Int32) s0
set_option maxRecDepth 100000 in
set_option maxHeartbeats 4000000 in
theorem t_X8_work {g : qG} {l : Launch} (hl : l.stackTraces = false) (a1 : Int32) (s0 : qS) : qM g l 4 0 0 (.code yX8_work cX8_work 4 (some .int)) yX8_work [qR 26 0, qI a1] s0 (f_X8_work a1 s0) := by
  refine qM_of (by decide +kernel) hl (List.forall_mem_cons.mpr ⟨rfl, (List.forall_mem_cons.mpr ⟨rfl, (fun _ h => absurd h List.not_mem_nil)⟩)⟩) (Nat.le_of_ble_eq_true rfl) ?_
  intro p e s m args below meth c C hret ht
  show qV p l e _ s m args below meth c g _ _ _ _ _ 0 [some (qR 26 0), some (qI a1), none, none] [] s0
  exact (qv_iconst C (v := (0 : Int32)) dX8_work_0 (by decide) (qv_istore_n C dX8_work_1 (by decide) rfl (qv_iconst C (v := (0 : Int32)) dX8_work_2 (by decide) (qv_istore_n C dX8_work_3 (by decide) rfl (qV.weak [true, true, true, true] (lt_X8_work_4 hl C hret ht  qFU a1 (0 : Int32) (0 : Int32) s0))))))
def f_X8_workload (a1 : Int32) (s0 : qS) : Option qO :=
  qbind (f_X8_work a1 s0) (qvI (fun r1 s1 =>
  (some (.inl (some (qI r1)), s1)))) qE0
set_option maxRecDepth 100000 in
set_option maxHeartbeats 4000000 in
theorem t_X8_workload {g : qG} {l : Launch} (hl : l.stackTraces = false) (a1 : Int32) (s0 : qS) : qM g l 5 0 0 (.code yX8_workload cX8_workload 2 (some .int)) yX8_workload [qR 26 0, qI a1] s0 (f_X8_workload a1 s0) := by
  refine qM_of (by decide +kernel) hl (List.forall_mem_cons.mpr ⟨rfl, (List.forall_mem_cons.mpr ⟨rfl, (fun _ h => absurd h List.not_mem_nil)⟩)⟩) (Nat.le_of_ble_eq_true rfl) ?_
  intro p e s m args below meth c C hret ht
  show qV p l e _ s m args below meth c g _ _ _ _ _ 0 [some (qR 26 0), some (qI a1)] [] s0
  exact (qv_aload_n C dX8_workload_0 rfl (qv_iload_n C dX8_workload_1 rfl (qv_callV C (rest := []) (cb := 0) (sb := 0) (t_X8_work hl a1 s0) mw_X8_work lk_X8_179 in_X8_work se_X8_work rfl (by decide) (by decide) rfl rfl (Nat.le_of_ble_eq_true rfl) (by decide) dX8_workload_2 rfl (qkI (fun r1 s1 => (qv_iret C hret dX8_workload_5))))))
def f_X8_workloadByDays (a1 : Int32) (s0 : qS) : Option qO :=
  qbind (f_X8_work a1 s0) (qvI (fun r1 s1 =>
  (some (.inl (some (qI r1)), s1)))) qE0
set_option maxRecDepth 100000 in
set_option maxHeartbeats 4000000 in
theorem t_X8_workloadByDays {g : qG} {l : Launch} (hl : l.stackTraces = false) (a1 : Int32) (s0 : qS) : qM g l 5 0 0 (.code yX8_workloadByDays cX8_workloadByDays 2 (some .int)) yX8_workloadByDays [qR 26 0, qI a1] s0 (f_X8_workloadByDays a1 s0) := by
  refine qM_of (by decide +kernel) hl (List.forall_mem_cons.mpr ⟨rfl, (List.forall_mem_cons.mpr ⟨rfl, (fun _ h => absurd h List.not_mem_nil)⟩)⟩) (Nat.le_of_ble_eq_true rfl) ?_
  intro p e s m args below meth c C hret ht
  show qV p l e _ s m args below meth c g _ _ _ _ _ 0 [some (qR 26 0), some (qI a1)] [] s0
  exact (qv_aload_n C dX8_workloadByDays_0 rfl (qv_iload_n C dX8_workloadByDays_1 rfl (qv_callV C (rest := []) (cb := 0) (sb := 0) (t_X8_work hl a1 s0) mw_X8_work lk_X8_179 in_X8_work se_X8_work rfl (by decide) (by decide) rfl rfl (Nat.le_of_ble_eq_true rfl) (by decide) dX8_workloadByDays_2 rfl (qkI (fun r1 s1 => (qv_iret C hret dX8_workloadByDays_5))))))
def f_X8_hasBaseline  (s0 : qS) : Option qO :=
  qlet (qu s0 26 0 17 (0 : Int32)) (fun s1 =>
  (if (s1 27 0 1) = (1 : Int32) then (some (.inl (some (qI (1 : Int32))), s1)) else
  (some (.inl (some (qI (0 : Int32))), s1))))
set_option maxRecDepth 100000 in
set_option maxHeartbeats 4000000 in
theorem t_X8_hasBaseline {g : qG} {l : Launch} (hl : l.stackTraces = false)  (s0 : qS) : qM g l 1 0 0 (.code yX8_hasBaseline cX8_hasBaseline 1 (some .boolean)) yX8_hasBaseline [qR 26 0] s0 (f_X8_hasBaseline  s0) := by
  refine qM_of (by decide +kernel) hl (List.forall_mem_cons.mpr ⟨rfl, (fun _ h => absurd h List.not_mem_nil)⟩) (Nat.le_of_ble_eq_true rfl) ?_
  intro p e s m args below meth c C hret ht
  show qV p l e _ s m args below meth c g _ _ _ _ _ 0 [some (qR 26 0)] [] s0
  exact (qv_aload_n C dX8_hasBaseline_0 rfl (qv_iconst C (v := (0 : Int32)) dX8_hasBaseline_1 (by decide) (qv_putI C fl_X8_50 cl_X8 rfl (by decide) (by decide) (by decide) rfl rfl rfl (qin_nar _) (qin_fits _) dX8_hasBaseline_2 (qv_let (fun s1 => (qv_aload_n C dX8_hasBaseline_5 rfl (qv_getR C (j2 := 0) fl_X8_9 cl_X8 rfl (by decide) (by decide) (by decide) rfl rfl dX8_hasBaseline_6 (qv_iconst C (v := (1 : Int32)) dX8_hasBaseline_9 (by decide) (qv_iald! C rfl (by decide) (by decide) (by decide) dX8_hasBaseline_10 (qv_iconst C (v := (1 : Int32)) dX8_hasBaseline_11 (by decide) (qv_icmp_ne C (tgt := 19) dX8_hasBaseline_12 (by decide) (fun _ => (qv_iconst C (v := (1 : Int32)) dX8_hasBaseline_15 (by decide) (qv_goto C (tgt := 20) dX8_hasBaseline_16 (by decide) (qv_zret! C hret (qbo_nar (by decide)) dX8_hasBaseline_20))))
  (fun _ => (qv_iconst C (v := (0 : Int32)) dX8_hasBaseline_19 (by decide) (qv_zret! C hret (qbo_nar (by decide)) dX8_hasBaseline_20))))))))))))))
def f_X8_baselineStart (a1 : Int32) (s0 : qS) : Option qO :=
  qbind (f_X8_isTask a1 s0) (qvI (fun r1 s1 =>
  qbind (f_X8_of a1 (5 : Int32) s1) (qvI (fun r2 s2 =>
  (if r2 = (-1 : Int32) then qbind (f_X8_holds r1 (0 : Int32) (1 : Int32) s2) (qvI (fun r3 s3 =>
  (if r3 = 0 then (some (.inl (some (qI (0 : Int32))), s3)) else
  qbind (f_X8_of a1 (5 : Int32) s3) (qvI (fun r4 s4 =>
  (some (.inl (some (qI r4)), s4)))) qE0))) qE0 else
  qbind (f_X8_holds r1 (1 : Int32) (1 : Int32) s2) (qvI (fun r5 s5 =>
  (if r5 = 0 then (some (.inl (some (qI (0 : Int32))), s5)) else
  qbind (f_X8_of a1 (5 : Int32) s5) (qvI (fun r6 s6 =>
  (some (.inl (some (qI r6)), s6)))) qE0))) qE0))) qE0)) qE0
set_option maxRecDepth 100000 in
set_option maxHeartbeats 4000000 in
theorem t_X8_baselineStart {g : qG} {l : Launch} (hl : l.stackTraces = false) (a1 : Int32) (s0 : qS) : qM g l 4 0 0 (.code yX8_baselineStart cX8_baselineStart 2 (some .int)) yX8_baselineStart [qR 26 0, qI a1] s0 (f_X8_baselineStart a1 s0) := by
  refine qM_of (by decide +kernel) hl (List.forall_mem_cons.mpr ⟨rfl, (List.forall_mem_cons.mpr ⟨rfl, (fun _ h => absurd h List.not_mem_nil)⟩)⟩) (Nat.le_of_ble_eq_true rfl) ?_
  intro p e s m args below meth c C hret ht
  show qV p l e _ s m args below meth c g _ _ _ _ _ 0 [some (qR 26 0), some (qI a1)] [] s0
  exact (qv_aload_n C dX8_baselineStart_0 rfl (qv_aload_n C dX8_baselineStart_1 rfl (qv_iload_n C dX8_baselineStart_2 rfl (qv_callV C (rest := [qR 26 0]) (cb := 0) (sb := 0) (t_X8_isTask hl a1 s0) mw_X8_isTask lk_X8_79 in_X8_isTask se_X8_isTask rfl (by decide) (by decide) rfl rfl (Nat.le_of_ble_eq_true rfl) (by decide) dX8_baselineStart_3 rfl (qkI (fun r1 s1 => (qv_aload_n C dX8_baselineStart_6 rfl (qv_iload_n C dX8_baselineStart_7 rfl (qv_iconst C (v := (5 : Int32)) dX8_baselineStart_8 (by decide) (qv_callV C (rest := [qI r1, qR 26 0]) (cb := 0) (sb := 0) (t_X8_of hl a1 (5 : Int32) s1) mw_X8_of lk_X8_87 in_X8_of se_X8_of rfl (by decide) (by decide) rfl rfl (Nat.le_of_ble_eq_true rfl) (by decide) dX8_baselineStart_9 rfl (qkI (fun r2 s2 => (qv_iconst C (v := (-1 : Int32)) dX8_baselineStart_12 (by decide) (qv_icmp_eq C (tgt := 20) dX8_baselineStart_13 (by decide) (fun _ => (qv_iconst C (v := (0 : Int32)) dX8_baselineStart_20 (by decide) (qv_iconst C (v := (1 : Int32)) dX8_baselineStart_21 (by decide) (qv_callV C (rest := []) (cb := 0) (sb := 0) (t_X8_holds hl r1 (0 : Int32) (1 : Int32) s2) mw_X8_holds lk_X8_53 in_X8_holds se_X8_holds rfl (by decide) (by decide) rfl rfl (Nat.le_of_ble_eq_true rfl) (by decide) dX8_baselineStart_22 rfl (qkI (fun r3 s3 => (qv_if_eq C (tgt := 37) dX8_baselineStart_25 (by decide) (fun _ => (qv_iconst C (v := (0 : Int32)) dX8_baselineStart_37 (by decide) (qv_iret C hret dX8_baselineStart_38)))
  (fun _ => (qv_aload_n C dX8_baselineStart_28 rfl (qv_iload_n C dX8_baselineStart_29 rfl (qv_iconst C (v := (5 : Int32)) dX8_baselineStart_30 (by decide) (qv_callV C (rest := []) (cb := 0) (sb := 0) (t_X8_of hl a1 (5 : Int32) s3) mw_X8_of lk_X8_87 in_X8_of se_X8_of rfl (by decide) (by decide) rfl rfl (Nat.le_of_ble_eq_true rfl) (by decide) dX8_baselineStart_31 rfl (qkI (fun r4 s4 => (qv_goto C (tgt := 38) dX8_baselineStart_34 (by decide) (qv_iret C hret dX8_baselineStart_38))))))))))))))))
  (fun _ => (qv_iconst C (v := (1 : Int32)) dX8_baselineStart_16 (by decide) (qv_goto C (tgt := 21) dX8_baselineStart_17 (by decide) (qv_iconst C (v := (1 : Int32)) dX8_baselineStart_21 (by decide) (qv_callV C (rest := []) (cb := 0) (sb := 0) (t_X8_holds hl r1 (1 : Int32) (1 : Int32) s2) mw_X8_holds lk_X8_53 in_X8_holds se_X8_holds rfl (by decide) (by decide) rfl rfl (Nat.le_of_ble_eq_true rfl) (by decide) dX8_baselineStart_22 rfl (qkI (fun r5 s5 => (qv_if_eq C (tgt := 37) dX8_baselineStart_25 (by decide) (fun _ => (qv_iconst C (v := (0 : Int32)) dX8_baselineStart_37 (by decide) (qv_iret C hret dX8_baselineStart_38)))
  (fun _ => (qv_aload_n C dX8_baselineStart_28 rfl (qv_iload_n C dX8_baselineStart_29 rfl (qv_iconst C (v := (5 : Int32)) dX8_baselineStart_30 (by decide) (qv_callV C (rest := []) (cb := 0) (sb := 0) (t_X8_of hl a1 (5 : Int32) s5) mw_X8_of lk_X8_87 in_X8_of se_X8_of rfl (by decide) (by decide) rfl rfl (Nat.le_of_ble_eq_true rfl) (by decide) dX8_baselineStart_31 rfl (qkI (fun r6 s6 => (qv_goto C (tgt := 38) dX8_baselineStart_34 (by decide) (qv_iret C hret dX8_baselineStart_38)))))))))))))))))))))))))))))))
def f_X8_isConsistent  (s0 : qS) : Option qO :=
  qlet (qu s0 26 0 17 (0 : Int32)) (fun s1 =>
  (some (.inl (some (qI (1 : Int32))), s1)))
set_option maxRecDepth 100000 in
set_option maxHeartbeats 4000000 in
theorem t_X8_isConsistent {g : qG} {l : Launch} (hl : l.stackTraces = false)  (s0 : qS) : qM g l 1 0 0 (.code yX8_isConsistent cX8_isConsistent 1 (some .boolean)) yX8_isConsistent [qR 26 0] s0 (f_X8_isConsistent  s0) := by
  refine qM_of (by decide +kernel) hl (List.forall_mem_cons.mpr ⟨rfl, (fun _ h => absurd h List.not_mem_nil)⟩) (Nat.le_of_ble_eq_true rfl) ?_
  intro p e s m args below meth c C hret ht
  show qV p l e _ s m args below meth c g _ _ _ _ _ 0 [some (qR 26 0)] [] s0
  exact (qv_aload_n C dX8_isConsistent_0 rfl (qv_iconst C (v := (0 : Int32)) dX8_isConsistent_1 (by decide) (qv_putI C fl_X8_50 cl_X8 rfl (by decide) (by decide) (by decide) rfl rfl rfl (qin_nar _) (qin_fits _) dX8_isConsistent_2 (qv_let (fun s1 => (qv_iconst C (v := (1 : Int32)) dX8_isConsistent_5 (by decide) (qv_zret! C hret (qbo_nar (by decide)) dX8_isConsistent_6)))))))
def f_X8_put (a1 : Int32) (a2 : Int32) (s0 : qS) : Option qO :=
  (if qin a1 600 then qlet (qu s0 36 0 (a1).toNatClampNeg a2) (fun s1 =>
  (some (.inl (some (qI (a1 + (1 : Int32)))), s1))) else none)
set_option maxRecDepth 100000 in
set_option maxHeartbeats 4000000 in
theorem t_X8_put {g : qG} {l : Launch} (hl : l.stackTraces = false) (a1 : Int32) (a2 : Int32) (s0 : qS) : qM g l 1 0 0 (.code yX8_put cX8_put 3 (some .int)) yX8_put [qR 26 0, qI a1, qI a2] s0 (f_X8_put a1 a2 s0) := by
  refine qM_of (by decide +kernel) hl (List.forall_mem_cons.mpr ⟨rfl, (List.forall_mem_cons.mpr ⟨rfl, (List.forall_mem_cons.mpr ⟨rfl, (fun _ h => absurd h List.not_mem_nil)⟩)⟩)⟩) (Nat.le_of_ble_eq_true rfl) ?_
  intro p e s m args below meth c C hret ht
  show qV p l e _ s m args below meth c g _ _ _ _ _ 0 [some (qR 26 0), some (qI a1), some (qI a2)] [] s0
  exact (qv_aload_n C dX8_put_0 rfl (qv_getR C (j2 := 0) fl_X8_44 cl_X8 rfl (by decide) (by decide) (by decide) rfl rfl dX8_put_1 (qv_iload_n C dX8_put_4 rfl (qv_iload_n C dX8_put_5 rfl (qv_iast C rfl rfl (by decide) (by decide) dX8_put_6 (fun _ => (qv_let (fun s1 => (qv_iload_n C dX8_put_7 rfl (qv_iconst C (v := (1 : Int32)) dX8_put_8 (by decide) (qv_iadd C dX8_put_9 (qv_iret C hret dX8_put_10))))))))))))
def b_X8_writesNumber_28 (rk28 : Int32 → Int32 → Int32 → qS → Option qO) (v2 : Int32) (v3 : Int32) (v5 : Int32) (s0 : qS) : Option qO :=
  (if v5 ≤ 0 then (some (.inl (some (qI v3)), s0)) else
  (if v5 = 0 then none else qbind (f_X8_put v3 ((48 : Int32) + ((v2 / v5) - (v2 / v5) / (10 : Int32) * (10 : Int32))) s0) (qvI (fun r1 s1 =>
  rk28 v2 r1 (v5 / (10 : Int32)) s1)) qE0))
def l_X8_writesNumber_28 : Nat → Int32 → Int32 → Int32 → qS → Option qO
  | 0, _, _, _, _ => none
  | n + 1, v2, v3, v5, s0 => b_X8_writesNumber_28  (l_X8_writesNumber_28  n) v2 v3 v5 s0
set_option maxRecDepth 100000 in
set_option maxHeartbeats 4000000 in
theorem bt_X8_writesNumber_28 {p : Program} {l : Launch} {e : Env} {s : State} {m : MethodId} {args : Array Value} {below : List Frame} {meth : Method} {c : Code} {g : qG} (hl : l.stackTraces = false) (C : qC p l s m meth c cX8_writesNumber 6 RX8 g) (hret : meth.sig.returnType = (some .int)) (ht : ∀ x ∈ c.exceptionTable.toList, False)  (rk28 : Int32 → Int32 → Int32 → qS → Option qO) (hrk28 : ∀ (v2 : Int32) (v3 : Int32) (v5 : Int32) (s0 : qS), qV p l e (qrm 2 0 0) s m args below meth c g 6 (qQf g below args s (qrm 2 0 0)) (rk28 v2 v3 v5 s0) 0 0 28 [some (qR 26 0), none, some (qI v2), some (qI v3), none, some (qI v5)] [] s0) (v2 : Int32) (v3 : Int32) (v5 : Int32) (s0 : qS) : qV p l e (qrm 2 0 0) s m args below meth c g 6 (qQf g below args s (qrm 2 0 0)) (b_X8_writesNumber_28  rk28 v2 v3 v5 s0) 0 0 28 [some (qR 26 0), none, some (qI v2), some (qI v3), none, some (qI v5)] [] s0 :=
  (qv_iload C dX8_writesNumber_28 rfl (qv_if_le C (tgt := 59) dX8_writesNumber_30 (by decide) (fun _ => (qv_iload_n C dX8_writesNumber_59 rfl (qv_iret C hret dX8_writesNumber_60)))
  (fun _ => (qv_aload_n C dX8_writesNumber_33 rfl (qv_iload_n C dX8_writesNumber_34 rfl (qv_bipush C (v := (48 : Int32)) dX8_writesNumber_35 (by decide) (qv_iload_n C dX8_writesNumber_37 rfl (qv_iload C dX8_writesNumber_38 rfl (qv_idiv C dX8_writesNumber_40 (fun _ => (qv_bipush C (v := (10 : Int32)) dX8_writesNumber_41 (by decide) (qv_irem! C (by decide) dX8_writesNumber_43 (qv_iadd C dX8_writesNumber_44 (qv_callV C (rest := []) (cb := 0) (sb := 0) (t_X8_put hl v3 ((48 : Int32) + ((v2 / v5) - (v2 / v5) / (10 : Int32) * (10 : Int32))) s0) mw_X8_put lk_X8_185 in_X8_put se_X8_put rfl (by decide) (by decide) rfl rfl (Nat.le_of_ble_eq_true rfl) (by decide) dX8_writesNumber_45 rfl (qkI (fun r1 s1 => (qv_istore_n C dX8_writesNumber_48 (by decide) rfl (qv_iload C dX8_writesNumber_49 rfl (qv_bipush C (v := (10 : Int32)) dX8_writesNumber_51 (by decide) (qv_idiv! C (by decide) dX8_writesNumber_53 (qv_istore C dX8_writesNumber_54 (by decide) rfl (qv_goto C (tgt := 28) dX8_writesNumber_56 (by decide) (qV.weak [true, false, true, true, false, true] (hrk28 v2 r1 (v5 / (10 : Int32)) s1))))))))))))))))))))))))
theorem lt_X8_writesNumber_28 {p : Program} {l : Launch} {e : Env} {s : State} {m : MethodId} {args : Array Value} {below : List Frame} {meth : Method} {c : Code} {g : qG} (hl : l.stackTraces = false) (C : qC p l s m meth c cX8_writesNumber 6 RX8 g) (hret : meth.sig.returnType = (some .int)) (ht : ∀ x ∈ c.exceptionTable.toList, False)  : ∀ (n : Nat) (v2 : Int32) (v3 : Int32) (v5 : Int32) (s0 : qS), qV p l e (qrm 2 0 0) s m args below meth c g 6 (qQf g below args s (qrm 2 0 0)) (l_X8_writesNumber_28  n v2 v3 v5 s0) 0 0 28 [some (qR 26 0), none, some (qI v2), some (qI v3), none, some (qI v5)] [] s0
  | 0, _, _, _, _ => qV.no
  | n + 1, v2, v3, v5, s0 => bt_X8_writesNumber_28 hl C hret ht  _ (lt_X8_writesNumber_28 hl C hret ht  n) v2 v3 v5 s0
def b_X8_writesNumber_5 (rk5 : Int32 → Int32 → Int32 → qS → Option qO) (v2 : Int32) (v3 : Int32) (v4 : Int32) (s0 : qS) : Option qO :=
  (if v4 = 0 then none else (if (v2 / v4) ≤ (9 : Int32) then l_X8_writesNumber_28  qFU v2 v3 v4 s0 else
  rk5 v2 v3 (v4 * (10 : Int32)) s0))
def l_X8_writesNumber_5 : Nat → Int32 → Int32 → Int32 → qS → Option qO
  | 0, _, _, _, _ => none
  | n + 1, v2, v3, v4, s0 => b_X8_writesNumber_5  (l_X8_writesNumber_5  n) v2 v3 v4 s0
set_option maxRecDepth 100000 in
set_option maxHeartbeats 4000000 in
theorem bt_X8_writesNumber_5 {p : Program} {l : Launch} {e : Env} {s : State} {m : MethodId} {args : Array Value} {below : List Frame} {meth : Method} {c : Code} {g : qG} (hl : l.stackTraces = false) (C : qC p l s m meth c cX8_writesNumber 6 RX8 g) (hret : meth.sig.returnType = (some .int)) (ht : ∀ x ∈ c.exceptionTable.toList, False)  (rk5 : Int32 → Int32 → Int32 → qS → Option qO) (hrk5 : ∀ (v2 : Int32) (v3 : Int32) (v4 : Int32) (s0 : qS), qV p l e (qrm 2 0 0) s m args below meth c g 6 (qQf g below args s (qrm 2 0 0)) (rk5 v2 v3 v4 s0) 0 0 5 [some (qR 26 0), none, some (qI v2), some (qI v3), some (qI v4), none] [] s0) (v2 : Int32) (v3 : Int32) (v4 : Int32) (s0 : qS) : qV p l e (qrm 2 0 0) s m args below meth c g 6 (qQf g below args s (qrm 2 0 0)) (b_X8_writesNumber_5  rk5 v2 v3 v4 s0) 0 0 5 [some (qR 26 0), none, some (qI v2), some (qI v3), some (qI v4), none] [] s0 :=
  (qv_iload_n C dX8_writesNumber_5 rfl (qv_iload C dX8_writesNumber_6 rfl (qv_idiv C dX8_writesNumber_8 (fun _ => (qv_bipush C (v := (9 : Int32)) dX8_writesNumber_9 (by decide) (qv_icmp_le C (tgt := 24) dX8_writesNumber_11 (by decide) (fun _ => (qv_iload C dX8_writesNumber_24 rfl (qv_istore C dX8_writesNumber_26 (by decide) rfl (qV.weak [true, false, true, true, false, true] (lt_X8_writesNumber_28 hl C hret ht  qFU v2 v3 v4 s0)))))
  (fun _ => (qv_iload C dX8_writesNumber_14 rfl (qv_bipush C (v := (10 : Int32)) dX8_writesNumber_16 (by decide) (qv_imul C dX8_writesNumber_18 (qv_istore C dX8_writesNumber_19 (by decide) rfl (qv_goto C (tgt := 5) dX8_writesNumber_21 (by decide) (qV.weak [true, false, true, true, true, false] (hrk5 v2 v3 (v4 * (10 : Int32)) s0))))))))))))))
theorem lt_X8_writesNumber_5 {p : Program} {l : Launch} {e : Env} {s : State} {m : MethodId} {args : Array Value} {below : List Frame} {meth : Method} {c : Code} {g : qG} (hl : l.stackTraces = false) (C : qC p l s m meth c cX8_writesNumber 6 RX8 g) (hret : meth.sig.returnType = (some .int)) (ht : ∀ x ∈ c.exceptionTable.toList, False)  : ∀ (n : Nat) (v2 : Int32) (v3 : Int32) (v4 : Int32) (s0 : qS), qV p l e (qrm 2 0 0) s m args below meth c g 6 (qQf g below args s (qrm 2 0 0)) (l_X8_writesNumber_5  n v2 v3 v4 s0) 0 0 5 [some (qR 26 0), none, some (qI v2), some (qI v3), some (qI v4), none] [] s0
  | 0, _, _, _, _ => qV.no
  | n + 1, v2, v3, v4, s0 => bt_X8_writesNumber_5 hl C hret ht  _ (lt_X8_writesNumber_5 hl C hret ht  n) v2 v3 v4 s0
def f_X8_writesNumber (a1 : Int32) (a2 : Int32) (s0 : qS) : Option qO :=
  l_X8_writesNumber_5  qFU a2 a1 (1 : Int32) s0
set_option maxRecDepth 100000 in
set_option maxHeartbeats 4000000 in
theorem t_X8_writesNumber {g : qG} {l : Launch} (hl : l.stackTraces = false) (a1 : Int32) (a2 : Int32) (s0 : qS) : qM g l 2 0 0 (.code yX8_writesNumber cX8_writesNumber 6 (some .int)) yX8_writesNumber [qR 26 0, qI a1, qI a2] s0 (f_X8_writesNumber a1 a2 s0) := by
  refine qM_of (by decide +kernel) hl (List.forall_mem_cons.mpr ⟨rfl, (List.forall_mem_cons.mpr ⟨rfl, (List.forall_mem_cons.mpr ⟨rfl, (fun _ h => absurd h List.not_mem_nil)⟩)⟩)⟩) (Nat.le_of_ble_eq_true rfl) ?_
  intro p e s m args below meth c C hret ht
  show qV p l e _ s m args below meth c g _ _ _ _ _ 0 [some (qR 26 0), some (qI a1), some (qI a2), none, none, none] [] s0
  exact (qv_iload_n C dX8_writesNumber_0 rfl (qv_istore_n C dX8_writesNumber_1 (by decide) rfl (qv_iconst C (v := (1 : Int32)) dX8_writesNumber_2 (by decide) (qv_istore C dX8_writesNumber_3 (by decide) rfl (qV.weak [true, false, true, true, true, false] (lt_X8_writesNumber_5 hl C hret ht  qFU a2 a1 (1 : Int32) s0))))))
def f_X8_outputAt (a1 : Int32) (s0 : qS) : Option qO :=
  qbind (f_X8_isIn a1 (0 : Int32) ((s0 26 0 16) - (1 : Int32)) s0) (qvI (fun r1 s1 =>
  qbind (f_X8_goes r1 s1) (qvI (fun r2 s2 =>
  (if r2 = 0 then (some (.inl (some (qI (0 : Int32))), s2)) else
  (if qin a1 600 then (if qch (((s2 36 0 (a1).toNatClampNeg).toUInt32 % 65536).toInt32) then some (.inl (some (qI (((s2 36 0 (a1).toNatClampNeg).toUInt32 % 65536).toInt32))), s2) else none) else none)))) qE0)) qE0
set_option maxRecDepth 100000 in
set_option maxHeartbeats 4000000 in
theorem t_X8_outputAt {g : qG} {l : Launch} (hl : l.stackTraces = false) (a1 : Int32) (s0 : qS) : qM g l 3 0 0 (.code yX8_outputAt cX8_outputAt 2 (some .char)) yX8_outputAt [qR 26 0, qI a1] s0 (f_X8_outputAt a1 s0) := by
  refine qM_of (by decide +kernel) hl (List.forall_mem_cons.mpr ⟨rfl, (List.forall_mem_cons.mpr ⟨rfl, (fun _ h => absurd h List.not_mem_nil)⟩)⟩) (Nat.le_of_ble_eq_true rfl) ?_
  intro p e s m args below meth c C hret ht
  show qV p l e _ s m args below meth c g _ _ _ _ _ 0 [some (qR 26 0), some (qI a1)] [] s0
  exact (qv_aload_n C dX8_outputAt_0 rfl (qv_iload_n C dX8_outputAt_1 rfl (qv_iconst C (v := (0 : Int32)) dX8_outputAt_2 (by decide) (qv_aload_n C dX8_outputAt_3 rfl (qv_getI C fl_X8_191 cl_X8 rfl (by decide) (by decide) (by decide) rfl dX8_outputAt_4 (qv_iconst C (v := (1 : Int32)) dX8_outputAt_7 (by decide) (qv_isub C dX8_outputAt_8 (qv_callS C (rest := [qR 26 0]) (cb := 0) (sb := 0) (t_X8_isIn hl a1 (0 : Int32) ((s0 26 0 16) - (1 : Int32)) s0) mw_X8_isIn lk_X8_75 st_X8_isIn rfl (Nat.le_of_ble_eq_true rfl) (by decide) dX8_outputAt_9 rfl (qkI (fun r1 s1 => (qv_callV C (rest := []) (cb := 0) (sb := 0) (t_X8_goes hl r1 s1) mw_X8_goes lk_X8_67 in_X8_goes se_X8_goes rfl (by decide) (by decide) rfl rfl (Nat.le_of_ble_eq_true rfl) (by decide) dX8_outputAt_12 rfl (qkI (fun r2 s2 => (qv_if_eq C (tgt := 28) dX8_outputAt_15 (by decide) (fun _ => (qv_iconst C (v := (0 : Int32)) dX8_outputAt_28 (by decide) (qv_zret! C hret (qch_nar (by decide)) dX8_outputAt_29)))
  (fun _ => (qv_aload_n C dX8_outputAt_18 rfl (qv_getR C (j2 := 0) fl_X8_44 cl_X8 rfl (by decide) (by decide) (by decide) rfl rfl dX8_outputAt_19 (qv_iload_n C dX8_outputAt_22 rfl (qv_iald C rfl rfl (by decide) (by decide) dX8_outputAt_23 (fun _ => (qv_i2c C dX8_outputAt_24 (qv_goto C (tgt := 29) dX8_outputAt_25 (by decide) (qv_cret C hret dX8_outputAt_29)))))))))))))))))))))))
def j_X8_type_23 (v1 : Int32) (w1 : Int32) (w2 : Int32) (s0 : qS) : Option qO :=
  qbind (f_X8_holds w1 w2 (1 : Int32) s0) (qvI (fun r2 s2 =>
  (if r2 = 0 then (some (.inl (some (qI (0 : Int32))), s2)) else
  (if qin (s2 26 0 14) 60 then qlet (qu s2 35 0 ((s2 26 0 14)).toNatClampNeg v1) (fun s3 =>
  qlet (qu s3 26 0 14 ((s3 26 0 14) + (1 : Int32))) (fun s4 =>
  (some (.inl (some (qI (s4 26 0 14))), s4)))) else none)))) qE0
set_option maxRecDepth 100000 in
set_option maxHeartbeats 4000000 in
theorem jt_X8_type_23 {p : Program} {l : Launch} {e : Env} {s : State} {m : MethodId} {args : Array Value} {below : List Frame} {meth : Method} {c : Code} {g : qG} (hl : l.stackTraces = false) (C : qC p l s m meth c cX8_type 2 RX8 g) (hret : meth.sig.returnType = (some .int)) (ht : ∀ x ∈ c.exceptionTable.toList, False)  (v1 : Int32) (w1 : Int32) (w2 : Int32) (s0 : qS) : qV p l e (qrm 2 0 0) s m args below meth c g 2 (qQf g below args s (qrm 2 0 0)) (j_X8_type_23  v1 w1 w2 s0) 0 0 23 [some (qR 26 0), some (qI v1)] [qI w2, qI w1, qR 26 0] s0 :=
  (qv_iconst C (v := (1 : Int32)) dX8_type_23 (by decide) (qv_callV C (rest := []) (cb := 0) (sb := 0) (t_X8_holds hl w1 w2 (1 : Int32) s0) mw_X8_holds lk_X8_53 in_X8_holds se_X8_holds rfl (by decide) (by decide) rfl rfl (Nat.le_of_ble_eq_true rfl) (by decide) dX8_type_24 rfl (qkI (fun r2 s2 => (qv_if_ne C (tgt := 32) dX8_type_27 (by decide) (fun _ => (qv_iconst C (v := (0 : Int32)) dX8_type_30 (by decide) (qv_iret C hret dX8_type_31)))
  (fun _ => (qv_aload_n C dX8_type_32 rfl (qv_getR C (j2 := 0) fl_X8_41 cl_X8 rfl (by decide) (by decide) (by decide) rfl rfl dX8_type_33 (qv_aload_n C dX8_type_36 rfl (qv_getI C fl_X8_194 cl_X8 rfl (by decide) (by decide) (by decide) rfl dX8_type_37 (qv_iload_n C dX8_type_40 rfl (qv_iast C rfl rfl (by decide) (by decide) dX8_type_41 (fun _ => (qv_let (fun s3 => (qv_aload_n C dX8_type_42 rfl (qv_dup C dX8_type_43 rfl (qv_getI C fl_X8_194 cl_X8 rfl (by decide) (by decide) (by decide) rfl dX8_type_44 (qv_iconst C (v := (1 : Int32)) dX8_type_47 (by decide) (qv_iadd C dX8_type_48 (qv_putI C fl_X8_194 cl_X8 rfl (by decide) (by decide) (by decide) rfl rfl rfl (qin_nar _) (qin_fits _) dX8_type_49 (qv_let (fun s4 => (qv_aload_n C dX8_type_52 rfl (qv_getI C fl_X8_194 cl_X8 rfl (by decide) (by decide) (by decide) rfl dX8_type_53 (qv_iret C hret dX8_type_56))))))))))))))))))))))))))
def f_X8_type (a1 : Int32) (s0 : qS) : Option qO :=
  qbind (f_X8_isIn a1 (32 : Int32) (126 : Int32) s0) (qvI (fun r1 s1 =>
  (if (60 : Int32) ≤ (s1 26 0 14) then j_X8_type_23  a1 r1 (0 : Int32) s1 else
  j_X8_type_23  a1 r1 (1 : Int32) s1))) qE0
set_option maxRecDepth 100000 in
set_option maxHeartbeats 4000000 in
theorem t_X8_type {g : qG} {l : Launch} (hl : l.stackTraces = false) (a1 : Int32) (s0 : qS) : qM g l 2 0 0 (.code yX8_type cX8_type 2 (some .int)) yX8_type [qR 26 0, qI a1] s0 (f_X8_type a1 s0) := by
  refine qM_of (by decide +kernel) hl (List.forall_mem_cons.mpr ⟨rfl, (List.forall_mem_cons.mpr ⟨rfl, (fun _ h => absurd h List.not_mem_nil)⟩)⟩) (Nat.le_of_ble_eq_true rfl) ?_
  intro p e s m args below meth c C hret ht
  show qV p l e _ s m args below meth c g _ _ _ _ _ 0 [some (qR 26 0), some (qI a1)] [] s0
  exact (qv_aload_n C dX8_type_0 rfl (qv_iload_n C dX8_type_1 rfl (qv_bipush C (v := (32 : Int32)) dX8_type_2 (by decide) (qv_bipush C (v := (126 : Int32)) dX8_type_4 (by decide) (qv_callS C (rest := [qR 26 0]) (cb := 0) (sb := 0) (t_X8_isIn hl a1 (32 : Int32) (126 : Int32) s0) mw_X8_isIn lk_X8_75 st_X8_isIn rfl (Nat.le_of_ble_eq_true rfl) (by decide) dX8_type_6 rfl (qkI (fun r1 s1 => (qv_aload_n C dX8_type_9 rfl (qv_getI C fl_X8_194 cl_X8 rfl (by decide) (by decide) (by decide) rfl dX8_type_10 (qv_bipush C (v := (60 : Int32)) dX8_type_13 (by decide) (qv_icmp_ge C (tgt := 22) dX8_type_15 (by decide) (fun _ => (qv_iconst C (v := (0 : Int32)) dX8_type_22 (by decide) (qV.weak [true, true] (jt_X8_type_23 hl C hret ht  a1 r1 (0 : Int32) s1))))
  (fun _ => (qv_iconst C (v := (1 : Int32)) dX8_type_18 (by decide) (qv_goto C (tgt := 23) dX8_type_19 (by decide) (qV.weak [true, true] (jt_X8_type_23 hl C hret ht  a1 r1 (1 : Int32) s1))))))))))))))))
def f_X8_letterHere  (s0 : qS) : Option qO :=
  (if (s0 26 0 18) ≤ (s0 26 0 19) then (some (.inl (some (qI (-1 : Int32))), s0)) else
  (if qin (s0 26 0 19) 60 then (some (.inl (some (qI (s0 35 0 ((s0 26 0 19)).toNatClampNeg))), s0)) else none))
set_option maxRecDepth 100000 in
set_option maxHeartbeats 4000000 in
theorem t_X8_letterHere {g : qG} {l : Launch} (hl : l.stackTraces = false)  (s0 : qS) : qM g l 1 0 0 (.code yX8_letterHere cX8_letterHere 1 (some .int)) yX8_letterHere [qR 26 0] s0 (f_X8_letterHere  s0) := by
  refine qM_of (by decide +kernel) hl (List.forall_mem_cons.mpr ⟨rfl, (fun _ h => absurd h List.not_mem_nil)⟩) (Nat.le_of_ble_eq_true rfl) ?_
  intro p e s m args below meth c C hret ht
  show qV p l e _ s m args below meth c g _ _ _ _ _ 0 [some (qR 26 0)] [] s0
  exact (qv_aload_n C dX8_letterHere_0 rfl (qv_getI C fl_X8_197 cl_X8 rfl (by decide) (by decide) (by decide) rfl dX8_letterHere_1 (qv_aload_n C dX8_letterHere_4 rfl (qv_getI C fl_X8_200 cl_X8 rfl (by decide) (by decide) (by decide) rfl dX8_letterHere_5 (qv_icmp_ge C (tgt := 23) dX8_letterHere_8 (by decide) (fun _ => (qv_iconst C (v := (-1 : Int32)) dX8_letterHere_23 (by decide) (qv_iret C hret dX8_letterHere_24)))
  (fun _ => (qv_aload_n C dX8_letterHere_11 rfl (qv_getR C (j2 := 0) fl_X8_41 cl_X8 rfl (by decide) (by decide) (by decide) rfl rfl dX8_letterHere_12 (qv_aload_n C dX8_letterHere_15 rfl (qv_getI C fl_X8_197 cl_X8 rfl (by decide) (by decide) (by decide) rfl dX8_letterHere_16 (qv_iald C rfl rfl (by decide) (by decide) dX8_letterHere_19 (fun _ => (qv_goto C (tgt := 24) dX8_letterHere_20 (by decide) (qv_iret C hret dX8_letterHere_24))))))))))))))
def j_X8_reads_44 (s0 : qS) : Option qO :=
  (if (s0 26 0 20) = (-1 : Int32) then qlet (qu s0 26 0 20 (s0 26 0 19)) (fun s3 =>
  (some (.inl (some (qI (0 : Int32))), s3))) else
  qlet (qu s0 26 0 20 (s0 26 0 20)) (fun s4 =>
  (some (.inl (some (qI (0 : Int32))), s4))))
set_option maxRecDepth 100000 in
set_option maxHeartbeats 4000000 in
theorem jt_X8_reads_44 {p : Program} {l : Launch} {e : Env} {s : State} {m : MethodId} {args : Array Value} {below : List Frame} {meth : Method} {c : Code} {g : qG} (hl : l.stackTraces = false) (C : qC p l s m meth c cX8_reads 3 RX8 g) (hret : meth.sig.returnType = (some .int)) (ht : ∀ x ∈ c.exceptionTable.toList, False)  (s0 : qS) : qV p l e (qrm 2 0 0) s m args below meth c g 3 (qQf g below args s (qrm 2 0 0)) (j_X8_reads_44   s0) 0 0 44 [some (qR 26 0), none, none] [] s0 :=
  (qv_aload_n C dX8_reads_44 rfl (qv_aload_n C dX8_reads_45 rfl (qv_getI C fl_X8_203 cl_X8 rfl (by decide) (by decide) (by decide) rfl dX8_reads_46 (qv_iconst C (v := (-1 : Int32)) dX8_reads_49 (by decide) (qv_icmp_ne C (tgt := 60) dX8_reads_50 (by decide) (fun _ => (qv_aload_n C dX8_reads_53 rfl (qv_getI C fl_X8_197 cl_X8 rfl (by decide) (by decide) (by decide) rfl dX8_reads_54 (qv_goto C (tgt := 64) dX8_reads_57 (by decide) (qv_putI C fl_X8_203 cl_X8 rfl (by decide) (by decide) (by decide) rfl rfl rfl (qin_nar _) (qin_fits _) dX8_reads_64 (qv_let (fun s3 => (qv_iconst C (v := (0 : Int32)) dX8_reads_67 (by decide) (qv_iret C hret dX8_reads_68)))))))))
  (fun _ => (qv_aload_n C dX8_reads_60 rfl (qv_getI C fl_X8_203 cl_X8 rfl (by decide) (by decide) (by decide) rfl dX8_reads_61 (qv_putI C fl_X8_203 cl_X8 rfl (by decide) (by decide) (by decide) rfl rfl rfl (qin_nar _) (qin_fits _) dX8_reads_64 (qv_let (fun s4 => (qv_iconst C (v := (0 : Int32)) dX8_reads_67 (by decide) (qv_iret C hret dX8_reads_68)))))))))))))
def f_X8_reads (a1 : Int32) (a2 : Int32) (s0 : qS) : Option qO :=
  (if (s0 26 0 20) = (-1 : Int32) then qbind (f_X8_letterHere  s0) (qvI (fun r1 s1 =>
  qbind (f_X8_isIn r1 a1 a2 s1) (qvI (fun r2 s2 =>
  (if r2 = 0 then j_X8_reads_44   s2 else
  qlet (qu s2 26 0 19 ((s2 26 0 19) + (1 : Int32))) (fun s5 =>
  (if qin ((s5 26 0 19) - (1 : Int32)) 60 then (some (.inl (some (qI ((s5 35 0 (((s5 26 0 19) - (1 : Int32))).toNatClampNeg) - a1))), s5)) else none))))) qE0)) qE0 else
  j_X8_reads_44   s0)
set_option maxRecDepth 100000 in
set_option maxHeartbeats 4000000 in
theorem t_X8_reads {g : qG} {l : Launch} (hl : l.stackTraces = false) (a1 : Int32) (a2 : Int32) (s0 : qS) : qM g l 2 0 0 (.code yX8_reads cX8_reads 3 (some .int)) yX8_reads [qR 26 0, qI a1, qI a2] s0 (f_X8_reads a1 a2 s0) := by
  refine qM_of (by decide +kernel) hl (List.forall_mem_cons.mpr ⟨rfl, (List.forall_mem_cons.mpr ⟨rfl, (List.forall_mem_cons.mpr ⟨rfl, (fun _ h => absurd h List.not_mem_nil)⟩)⟩)⟩) (Nat.le_of_ble_eq_true rfl) ?_
  intro p e s m args below meth c C hret ht
  show qV p l e _ s m args below meth c g _ _ _ _ _ 0 [some (qR 26 0), some (qI a1), some (qI a2)] [] s0
  exact (qv_aload_n C dX8_reads_0 rfl (qv_getI C fl_X8_203 cl_X8 rfl (by decide) (by decide) (by decide) rfl dX8_reads_1 (qv_iconst C (v := (-1 : Int32)) dX8_reads_4 (by decide) (qv_icmp_ne C (tgt := 44) dX8_reads_5 (by decide) (fun _ => (qv_aload_n C dX8_reads_8 rfl (qv_callV C (rest := []) (cb := 0) (sb := 0) (t_X8_letterHere hl  s0) mw_X8_letterHere lk_X8_206 in_X8_letterHere se_X8_letterHere rfl (by decide) (by decide) rfl rfl (Nat.le_of_ble_eq_true rfl) (by decide) dX8_reads_9 rfl (qkI (fun r1 s1 => (qv_iload_n C dX8_reads_12 rfl (qv_iload_n C dX8_reads_13 rfl (qv_callS C (rest := []) (cb := 0) (sb := 0) (t_X8_isIn hl r1 a1 a2 s1) mw_X8_isIn lk_X8_75 st_X8_isIn rfl (Nat.le_of_ble_eq_true rfl) (by decide) dX8_reads_14 rfl (qkI (fun r2 s2 => (qv_if_eq C (tgt := 44) dX8_reads_17 (by decide) (fun _ => (qV.weak [true, false, false] (jt_X8_reads_44 hl C hret ht   s2)))
  (fun _ => (qv_aload_n C dX8_reads_20 rfl (qv_dup C dX8_reads_21 rfl (qv_getI C fl_X8_197 cl_X8 rfl (by decide) (by decide) (by decide) rfl dX8_reads_22 (qv_iconst C (v := (1 : Int32)) dX8_reads_25 (by decide) (qv_iadd C dX8_reads_26 (qv_putI C fl_X8_197 cl_X8 rfl (by decide) (by decide) (by decide) rfl rfl rfl (qin_nar _) (qin_fits _) dX8_reads_27 (qv_let (fun s5 => (qv_aload_n C dX8_reads_30 rfl (qv_getR C (j2 := 0) fl_X8_41 cl_X8 rfl (by decide) (by decide) (by decide) rfl rfl dX8_reads_31 (qv_aload_n C dX8_reads_34 rfl (qv_getI C fl_X8_197 cl_X8 rfl (by decide) (by decide) (by decide) rfl dX8_reads_35 (qv_iconst C (v := (1 : Int32)) dX8_reads_38 (by decide) (qv_isub C dX8_reads_39 (qv_iald C rfl rfl (by decide) (by decide) dX8_reads_40 (fun _ => (qv_iload_n C dX8_reads_41 rfl (qv_isub C dX8_reads_42 (qv_iret C hret dX8_reads_43)))))))))))))))))))))))))))))))
  (fun _ => (qV.weak [true, false, false] (jt_X8_reads_44 hl C hret ht   s0)))))))
def f_X8_digit  (s0 : qS) : Option qO :=
  qbind (f_X8_reads (48 : Int32) (57 : Int32) s0) (qvI (fun r1 s1 =>
  (some (.inl (some (qI r1)), s1)))) qE0
set_option maxRecDepth 100000 in
set_option maxHeartbeats 4000000 in
theorem t_X8_digit {g : qG} {l : Launch} (hl : l.stackTraces = false)  (s0 : qS) : qM g l 3 0 0 (.code yX8_digit cX8_digit 1 (some .int)) yX8_digit [qR 26 0] s0 (f_X8_digit  s0) := by
  refine qM_of (by decide +kernel) hl (List.forall_mem_cons.mpr ⟨rfl, (fun _ h => absurd h List.not_mem_nil)⟩) (Nat.le_of_ble_eq_true rfl) ?_
  intro p e s m args below meth c C hret ht
  show qV p l e _ s m args below meth c g _ _ _ _ _ 0 [some (qR 26 0)] [] s0
  exact (qv_aload_n C dX8_digit_0 rfl (qv_bipush C (v := (48 : Int32)) dX8_digit_1 (by decide) (qv_bipush C (v := (57 : Int32)) dX8_digit_3 (by decide) (qv_callV C (rest := []) (cb := 0) (sb := 0) (t_X8_reads hl (48 : Int32) (57 : Int32) s0) mw_X8_reads lk_X8_209 in_X8_reads se_X8_reads rfl (by decide) (by decide) rfl rfl (Nat.le_of_ble_eq_true rfl) (by decide) dX8_digit_5 rfl (qkI (fun r1 s1 => (qv_iret C hret dX8_digit_8)))))))
def f_X8_number  (s0 : qS) : Option qO :=
  qbind (f_X8_digit  s0) (qvI (fun r1 s1 =>
  (if (s1 26 0 20) = (-1 : Int32) then qbind (f_X8_letterHere  s1) (qvI (fun r2 s2 =>
  qbind (f_X8_isIn r2 (48 : Int32) (57 : Int32) s2) (qvI (fun r3 s3 =>
  (if r3 = 0 then (some (.inl (some (qI r1)), s3)) else
  qbind (f_X8_digit  s3) (qvI (fun r4 s4 =>
  (some (.inl (some (qI (((10 : Int32) * r1) + r4))), s4)))) qE0))) qE0)) qE0 else
  (some (.inl (some (qI r1)), s1))))) qE0
set_option maxRecDepth 100000 in
set_option maxHeartbeats 4000000 in
theorem t_X8_number {g : qG} {l : Launch} (hl : l.stackTraces = false)  (s0 : qS) : qM g l 4 0 0 (.code yX8_number cX8_number 2 (some .int)) yX8_number [qR 26 0] s0 (f_X8_number  s0) := by
  refine qM_of (by decide +kernel) hl (List.forall_mem_cons.mpr ⟨rfl, (fun _ h => absurd h List.not_mem_nil)⟩) (Nat.le_of_ble_eq_true rfl) ?_
  intro p e s m args below meth c C hret ht
  show qV p l e _ s m args below meth c g _ _ _ _ _ 0 [some (qR 26 0), none] [] s0
  exact (qv_aload_n C dX8_number_0 rfl (qv_callV C (rest := []) (cb := 0) (sb := 0) (t_X8_digit hl  s0) mw_X8_digit lk_X8_212 in_X8_digit se_X8_digit rfl (by decide) (by decide) rfl rfl (Nat.le_of_ble_eq_true rfl) (by decide) dX8_number_1 rfl (qkI (fun r1 s1 => (qv_istore_n C dX8_number_4 (by decide) rfl (qv_aload_n C dX8_number_5 rfl (qv_getI C fl_X8_203 cl_X8 rfl (by decide) (by decide) (by decide) rfl dX8_number_6 (qv_iconst C (v := (-1 : Int32)) dX8_number_9 (by decide) (qv_icmp_ne C (tgt := 39) dX8_number_10 (by decide) (fun _ => (qv_aload_n C dX8_number_13 rfl (qv_callV C (rest := []) (cb := 0) (sb := 0) (t_X8_letterHere hl  s1) mw_X8_letterHere lk_X8_206 in_X8_letterHere se_X8_letterHere rfl (by decide) (by decide) rfl rfl (Nat.le_of_ble_eq_true rfl) (by decide) dX8_number_14 rfl (qkI (fun r2 s2 => (qv_bipush C (v := (48 : Int32)) dX8_number_17 (by decide) (qv_bipush C (v := (57 : Int32)) dX8_number_19 (by decide) (qv_callS C (rest := []) (cb := 0) (sb := 0) (t_X8_isIn hl r2 (48 : Int32) (57 : Int32) s2) mw_X8_isIn lk_X8_75 st_X8_isIn rfl (Nat.le_of_ble_eq_true rfl) (by decide) dX8_number_21 rfl (qkI (fun r3 s3 => (qv_if_eq C (tgt := 39) dX8_number_24 (by decide) (fun _ => (qv_iload_n C dX8_number_39 rfl (qv_iret C hret dX8_number_40)))
  (fun _ => (qv_bipush C (v := (10 : Int32)) dX8_number_27 (by decide) (qv_iload_n C dX8_number_29 rfl (qv_imul C dX8_number_30 (qv_aload_n C dX8_number_31 rfl (qv_callV C (rest := [qI ((10 : Int32) * r1)]) (cb := 0) (sb := 0) (t_X8_digit hl  s3) mw_X8_digit lk_X8_212 in_X8_digit se_X8_digit rfl (by decide) (by decide) rfl rfl (Nat.le_of_ble_eq_true rfl) (by decide) dX8_number_32 rfl (qkI (fun r4 s4 => (qv_iadd C dX8_number_35 (qv_goto C (tgt := 40) dX8_number_36 (by decide) (qv_iret C hret dX8_number_40))))))))))))))))))))))
  (fun _ => (qv_iload_n C dX8_number_39 rfl (qv_iret C hret dX8_number_40))))))))))))
def f_X8_sign (a1 : Int32) (s0 : qS) : Option qO :=
  qbind (f_X8_reads a1 a1 s0) (qvI (fun r1 s1 =>
  (some (.inl none, s1)))) qE0
set_option maxRecDepth 100000 in
set_option maxHeartbeats 4000000 in
theorem t_X8_sign {g : qG} {l : Launch} (hl : l.stackTraces = false) (a1 : Int32) (s0 : qS) : qM g l 3 0 0 (.code yX8_sign cX8_sign 3 none) yX8_sign [qR 26 0, qI a1] s0 (f_X8_sign a1 s0) := by
  refine qM_of (by decide +kernel) hl (List.forall_mem_cons.mpr ⟨rfl, (List.forall_mem_cons.mpr ⟨rfl, (fun _ h => absurd h List.not_mem_nil)⟩)⟩) (Nat.le_of_ble_eq_true rfl) ?_
  intro p e s m args below meth c C hret ht
  show qV p l e _ s m args below meth c g _ _ _ _ _ 0 [some (qR 26 0), some (qI a1), none] [] s0
  exact (qv_aload_n C dX8_sign_0 rfl (qv_iload_n C dX8_sign_1 rfl (qv_iload_n C dX8_sign_2 rfl (qv_callV C (rest := []) (cb := 0) (sb := 0) (t_X8_reads hl a1 a1 s0) mw_X8_reads lk_X8_209 in_X8_reads se_X8_reads rfl (by decide) (by decide) rfl rfl (Nat.le_of_ble_eq_true rfl) (by decide) dX8_sign_3 rfl (qkI (fun r1 s1 => (qv_istore_n C dX8_sign_6 (by decide) rfl (qv_vret C hret dX8_sign_7))))))))
def f_X8_startOf (a1 : Int32) (s0 : qS) : Option qO :=
  (qsw a1 0 [(some (.inl (some (qI ((5 : Int32) * a1))), s0)),
  (some (.inl (some (qI ((5 : Int32) * a1))), s0)),
  (some (.inl (some (qI ((5 : Int32) * a1))), s0)),
  (some (.inl (some (qI ((5 : Int32) * a1))), s0)),
  (some (.inl (some (qI (22 : Int32))), s0)),
  (some (.inl (some (qI (28 : Int32))), s0)),
  (some (.inl (some (qI (35 : Int32))), s0)),
  (some (.inl (some (qI (41 : Int32))), s0))] ((some (.inl (some (qI (45 : Int32))), s0))))
set_option maxRecDepth 100000 in
set_option maxHeartbeats 4000000 in
theorem t_X8_startOf {g : qG} {l : Launch} (hl : l.stackTraces = false) (a1 : Int32) (s0 : qS) : qM g l 1 0 0 (.code yX8_startOf cX8_startOf 1 (some .int)) yX8_startOf [qI a1] s0 (f_X8_startOf a1 s0) := by
  refine qM_of (by decide +kernel) hl (List.forall_mem_cons.mpr ⟨rfl, (fun _ h => absurd h List.not_mem_nil)⟩) (Nat.le_of_ble_eq_true rfl) ?_
  intro p e s m args below meth c C hret ht
  show qV p l e _ s m args below meth c g _ _ _ _ _ 0 [some (qI a1)] [] s0
  exact (qv_iload_n C dX8_startOf_0 rfl (qv_tsw C (tg := [48, 48, 48, 48, 52, 55, 58, 61]) (dt := 64) dX8_startOf_1 (by decide) (by decide) (by decide) ⟨(qv_iconst C (v := (5 : Int32)) dX8_startOf_48 (by decide) (qv_iload_n C dX8_startOf_49 rfl (qv_imul C dX8_startOf_50 (qv_iret C hret dX8_startOf_51)))), (qv_iconst C (v := (5 : Int32)) dX8_startOf_48 (by decide) (qv_iload_n C dX8_startOf_49 rfl (qv_imul C dX8_startOf_50 (qv_iret C hret dX8_startOf_51)))), (qv_iconst C (v := (5 : Int32)) dX8_startOf_48 (by decide) (qv_iload_n C dX8_startOf_49 rfl (qv_imul C dX8_startOf_50 (qv_iret C hret dX8_startOf_51)))), (qv_iconst C (v := (5 : Int32)) dX8_startOf_48 (by decide) (qv_iload_n C dX8_startOf_49 rfl (qv_imul C dX8_startOf_50 (qv_iret C hret dX8_startOf_51)))), (qv_bipush C (v := (22 : Int32)) dX8_startOf_52 (by decide) (qv_iret C hret dX8_startOf_54)), (qv_bipush C (v := (28 : Int32)) dX8_startOf_55 (by decide) (qv_iret C hret dX8_startOf_57)), (qv_bipush C (v := (35 : Int32)) dX8_startOf_58 (by decide) (qv_iret C hret dX8_startOf_60)), (qv_bipush C (v := (41 : Int32)) dX8_startOf_61 (by decide) (qv_iret C hret dX8_startOf_63)), trivial⟩ (qv_bipush C (v := (45 : Int32)) dX8_startOf_64 (by decide) (qv_iret C hret dX8_startOf_66))))
def j_X8_kindHere_135 (v2 : Int32) (w1 : Int32) (s0 : qS) : Option qO :=
  qlet (qu s0 26 0 20 w1) (fun s1 =>
  (if v2 = (-1 : Int32) then qlet (qu s1 26 0 19 ((s1 26 0 19) + (0 : Int32))) (fun s2 =>
  (some (.inl (some (qI v2)), s2))) else
  qbind (f_X8_startOf (v2 + (1 : Int32)) s1) (qvI (fun r1 s3 =>
  qbind (f_X8_startOf v2 s3) (qvI (fun r2 s4 =>
  qlet (qu s4 26 0 19 ((s1 26 0 19) + (r1 - r2))) (fun s5 =>
  (some (.inl (some (qI v2)), s5))))) qE0)) qE0))
set_option maxRecDepth 100000 in
set_option maxHeartbeats 4000000 in
theorem jt_X8_kindHere_135 {p : Program} {l : Launch} {e : Env} {s : State} {m : MethodId} {args : Array Value} {below : List Frame} {meth : Method} {c : Code} {g : qG} (hl : l.stackTraces = false) (C : qC p l s m meth c cX8_kindHere 6 RX8 g) (hret : meth.sig.returnType = (some .int)) (ht : ∀ x ∈ c.exceptionTable.toList, False)  (v2 : Int32) (w1 : Int32) (s0 : qS) : qV p l e (qrm 5 0 0) s m args below meth c g 6 (qQf g below args s (qrm 5 0 0)) (j_X8_kindHere_135  v2 w1 s0) 0 0 135 [some (qR 26 0), none, some (qI v2), none, none, none] [qI w1, qR 26 0] s0 :=
  (qv_putI C fl_X8_203 cl_X8 rfl (by decide) (by decide) (by decide) rfl rfl rfl (qin_nar _) (qin_fits _) dX8_kindHere_135 (qv_let (fun s1 => (qv_aload_n C dX8_kindHere_138 rfl (qv_dup C dX8_kindHere_139 rfl (qv_getI C fl_X8_197 cl_X8 rfl (by decide) (by decide) (by decide) rfl dX8_kindHere_140 (qv_iload_n C dX8_kindHere_143 rfl (qv_iconst C (v := (-1 : Int32)) dX8_kindHere_144 (by decide) (qv_icmp_ne C (tgt := 152) dX8_kindHere_145 (by decide) (fun _ => (qv_iconst C (v := (0 : Int32)) dX8_kindHere_148 (by decide) (qv_goto C (tgt := 163) dX8_kindHere_149 (by decide) (qv_iadd C dX8_kindHere_163 (qv_putI C fl_X8_197 cl_X8 rfl (by decide) (by decide) (by decide) rfl rfl rfl (qin_nar _) (qin_fits _) dX8_kindHere_164 (qv_let (fun s2 => (qv_iload_n C dX8_kindHere_167 rfl (qv_iret C hret dX8_kindHere_168)))))))))
  (fun _ => (qv_iload_n C dX8_kindHere_152 rfl (qv_iconst C (v := (1 : Int32)) dX8_kindHere_153 (by decide) (qv_iadd C dX8_kindHere_154 (qv_callS C (rest := [qI (s1 26 0 19), qR 26 0]) (cb := 0) (sb := 0) (t_X8_startOf hl (v2 + (1 : Int32)) s1) mw_X8_startOf lk_X8_215 st_X8_startOf rfl (Nat.le_of_ble_eq_true rfl) (by decide) dX8_kindHere_155 rfl (qkI (fun r1 s3 => (qv_iload_n C dX8_kindHere_158 rfl (qv_callS C (rest := [qI r1, qI (s1 26 0 19), qR 26 0]) (cb := 0) (sb := 0) (t_X8_startOf hl v2 s3) mw_X8_startOf lk_X8_215 st_X8_startOf rfl (Nat.le_of_ble_eq_true rfl) (by decide) dX8_kindHere_159 rfl (qkI (fun r2 s4 => (qv_isub C dX8_kindHere_162 (qv_iadd C dX8_kindHere_163 (qv_putI C fl_X8_197 cl_X8 rfl (by decide) (by decide) (by decide) rfl rfl rfl (qin_nar _) (qin_fits _) dX8_kindHere_164 (qv_let (fun s5 => (qv_iload_n C dX8_kindHere_167 rfl (qv_iret C hret dX8_kindHere_168)))))))))))))))))))))))))))
def j_X8_kindHere_90 (rk9 : Int32 → Int32 → Int32 → qS → Option qO) (v1 : Int32) (v2 : Int32) (v3 : Int32) (v4 : Int32) (v5 : Int32) (s0 : qS) : Option qO :=
  (if v5 = v4 then rk9 (qmax v1 ((s0 26 0 19) + v5)) v3 (v3 + (1 : Int32)) s0 else
  rk9 (qmax v1 ((s0 26 0 19) + v5)) v2 (v3 + (1 : Int32)) s0)
set_option maxRecDepth 100000 in
set_option maxHeartbeats 4000000 in
theorem jt_X8_kindHere_90 {p : Program} {l : Launch} {e : Env} {s : State} {m : MethodId} {args : Array Value} {below : List Frame} {meth : Method} {c : Code} {g : qG} (hl : l.stackTraces = false) (C : qC p l s m meth c cX8_kindHere 6 RX8 g) (hret : meth.sig.returnType = (some .int)) (ht : ∀ x ∈ c.exceptionTable.toList, False)  (rk9 : Int32 → Int32 → Int32 → qS → Option qO) (hrk9 : ∀ (v1 : Int32) (v2 : Int32) (v3 : Int32) (s0 : qS), qV p l e (qrm 5 0 0) s m args below meth c g 6 (qQf g below args s (qrm 5 0 0)) (rk9 v1 v2 v3 s0) 0 0 9 [some (qR 26 0), some (qI v1), some (qI v2), some (qI v3), none, none] [] s0) (v1 : Int32) (v2 : Int32) (v3 : Int32) (v4 : Int32) (v5 : Int32) (s0 : qS) : qV p l e (qrm 5 0 0) s m args below meth c g 6 (qQf g below args s (qrm 5 0 0)) (j_X8_kindHere_90  rk9 v1 v2 v3 v4 v5 s0) 0 0 90 [some (qR 26 0), some (qI v1), some (qI v2), some (qI v3), some (qI v4), some (qI v5)] [] s0 :=
  (qv_iload_n C dX8_kindHere_90 rfl (qv_aload_n C dX8_kindHere_91 rfl (qv_getI C fl_X8_197 cl_X8 rfl (by decide) (by decide) (by decide) rfl dX8_kindHere_92 (qv_iload C dX8_kindHere_95 rfl (qv_iadd C dX8_kindHere_97 (qv_mmax C lk_X8_141 mm_max (Nat.le_of_ble_eq_true rfl) (by decide) dX8_kindHere_98 (qv_istore_n C dX8_kindHere_101 (by decide) rfl (qv_iload C dX8_kindHere_102 rfl (qv_iload C dX8_kindHere_104 rfl (qv_icmp_ne C (tgt := 113) dX8_kindHere_106 (by decide) (fun _ => (qv_iload_n C dX8_kindHere_109 rfl (qv_goto C (tgt := 114) dX8_kindHere_110 (by decide) (qv_istore_n C dX8_kindHere_114 (by decide) rfl (qv_iinc C (v := (v3 + (1 : Int32))) dX8_kindHere_115 rfl rfl (by decide) rfl (qv_goto C (tgt := 9) dX8_kindHere_118 (by decide) (qV.weak [true, true, true, true, false, false] (hrk9 (qmax v1 ((s0 26 0 19) + v5)) v3 (v3 + (1 : Int32)) s0))))))))
  (fun _ => (qv_iload_n C dX8_kindHere_113 rfl (qv_istore_n C dX8_kindHere_114 (by decide) rfl (qv_iinc C (v := (v3 + (1 : Int32))) dX8_kindHere_115 rfl rfl (by decide) rfl (qv_goto C (tgt := 9) dX8_kindHere_118 (by decide) (qV.weak [true, true, true, true, false, false] (hrk9 (qmax v1 ((s0 26 0 19) + v5)) v2 (v3 + (1 : Int32)) s0)))))))))))))))))
def b_X8_kindHere_36 (rk9 : Int32 → Int32 → Int32 → qS → Option qO) (rk36 : Int32 → Int32 → Int32 → Int32 → Int32 → qS → Option qO) (v1 : Int32) (v2 : Int32) (v3 : Int32) (v4 : Int32) (v5 : Int32) (s0 : qS) : Option qO :=
  (if v4 ≤ v5 then j_X8_kindHere_90  rk9 v1 v2 v3 v4 v5 s0 else
  (if (s0 26 0 18) ≤ ((s0 26 0 19) + v5) then j_X8_kindHere_90  rk9 v1 v2 v3 v4 v5 s0 else
  (if qin ((s0 26 0 19) + v5) 60 then qbind (f_X8_startOf v3 s0) (qvI (fun r5 s8 =>
  qbind (f_J0_charAt_5068e 8 (r5 + v5) s8) (qvI (fun r6 s9 =>
  (if (s0 35 0 (((s0 26 0 19) + v5)).toNatClampNeg) = r6 then rk36 v1 v2 v3 v4 (v5 + (1 : Int32)) s9 else
  j_X8_kindHere_90  rk9 v1 v2 v3 v4 v5 s9))) qE0)) qE0 else none)))
def l_X8_kindHere_36 (rk9 : Int32 → Int32 → Int32 → qS → Option qO) : Nat → Int32 → Int32 → Int32 → Int32 → Int32 → qS → Option qO
  | 0, _, _, _, _, _, _ => none
  | n + 1, v1, v2, v3, v4, v5, s0 => b_X8_kindHere_36  rk9 (l_X8_kindHere_36  rk9 n) v1 v2 v3 v4 v5 s0
set_option maxRecDepth 100000 in
set_option maxHeartbeats 4000000 in
theorem bt_X8_kindHere_36 {p : Program} {l : Launch} {e : Env} {s : State} {m : MethodId} {args : Array Value} {below : List Frame} {meth : Method} {c : Code} {g : qG} (hl : l.stackTraces = false) (C : qC p l s m meth c cX8_kindHere 6 RX8 g) (hret : meth.sig.returnType = (some .int)) (ht : ∀ x ∈ c.exceptionTable.toList, False)  (rk9 : Int32 → Int32 → Int32 → qS → Option qO) (hrk9 : ∀ (v1 : Int32) (v2 : Int32) (v3 : Int32) (s0 : qS), qV p l e (qrm 5 0 0) s m args below meth c g 6 (qQf g below args s (qrm 5 0 0)) (rk9 v1 v2 v3 s0) 0 0 9 [some (qR 26 0), some (qI v1), some (qI v2), some (qI v3), none, none] [] s0) (rk36 : Int32 → Int32 → Int32 → Int32 → Int32 → qS → Option qO) (hrk36 : ∀ (v1 : Int32) (v2 : Int32) (v3 : Int32) (v4 : Int32) (v5 : Int32) (s0 : qS), qV p l e (qrm 5 0 0) s m args below meth c g 6 (qQf g below args s (qrm 5 0 0)) (rk36 v1 v2 v3 v4 v5 s0) 0 0 36 [some (qR 26 0), some (qI v1), some (qI v2), some (qI v3), some (qI v4), some (qI v5)] [] s0) (v1 : Int32) (v2 : Int32) (v3 : Int32) (v4 : Int32) (v5 : Int32) (s0 : qS) : qV p l e (qrm 5 0 0) s m args below meth c g 6 (qQf g below args s (qrm 5 0 0)) (b_X8_kindHere_36  rk9 rk36 v1 v2 v3 v4 v5 s0) 0 0 36 [some (qR 26 0), some (qI v1), some (qI v2), some (qI v3), some (qI v4), some (qI v5)] [] s0 :=
  (qv_iload C dX8_kindHere_36 rfl (qv_iload C dX8_kindHere_38 rfl (qv_icmp_ge C (tgt := 90) dX8_kindHere_40 (by decide) (fun _ => (qV.weak [true, true, true, true, true, true] (jt_X8_kindHere_90 hl C hret ht  rk9 hrk9 v1 v2 v3 v4 v5 s0)))
  (fun _ => (qv_aload_n C dX8_kindHere_43 rfl (qv_getI C fl_X8_197 cl_X8 rfl (by decide) (by decide) (by decide) rfl dX8_kindHere_44 (qv_iload C dX8_kindHere_47 rfl (qv_iadd C dX8_kindHere_49 (qv_aload_n C dX8_kindHere_50 rfl (qv_getI C fl_X8_200 cl_X8 rfl (by decide) (by decide) (by decide) rfl dX8_kindHere_51 (qv_icmp_ge C (tgt := 90) dX8_kindHere_54 (by decide) (fun _ => (qV.weak [true, true, true, true, true, true] (jt_X8_kindHere_90 hl C hret ht  rk9 hrk9 v1 v2 v3 v4 v5 s0)))
  (fun _ => (qv_aload_n C dX8_kindHere_57 rfl (qv_getR C (j2 := 0) fl_X8_41 cl_X8 rfl (by decide) (by decide) (by decide) rfl rfl dX8_kindHere_58 (qv_aload_n C dX8_kindHere_61 rfl (qv_getI C fl_X8_197 cl_X8 rfl (by decide) (by decide) (by decide) rfl dX8_kindHere_62 (qv_iload C dX8_kindHere_65 rfl (qv_iadd C dX8_kindHere_67 (qv_iald C rfl rfl (by decide) (by decide) dX8_kindHere_68 (fun _ => (qv_ldcN C dX8_kindHere_69 (qv_iload_n C dX8_kindHere_71 rfl (qv_callS C (rest := [qR 42 8, qI (s0 35 0 (((s0 26 0 19) + v5)).toNatClampNeg)]) (cb := 0) (sb := 0) (t_X8_startOf hl v3 s0) mw_X8_startOf lk_X8_215 st_X8_startOf rfl (Nat.le_of_ble_eq_true rfl) (by decide) dX8_kindHere_72 rfl (qkI (fun r5 s8 => (qv_iload C dX8_kindHere_75 rfl (qv_iadd C dX8_kindHere_77 (qv_callT C (rest := [qI (s0 35 0 (((s0 26 0 19) + v5)).toNatClampNeg)]) (cb := 0) (sb := 0) (t_J0_charAt_5068e hl (show 8 < 9 from (by decide)) (r5 + v5) s8) mw_J0_charAt_5068e lk_X8_220 in_J0_charAt_5068e se_J0_charAt_5068e (show 8 < 9 from (by decide)) rfl (Nat.le_of_ble_eq_true rfl) (by decide) dX8_kindHere_78 rfl (qkI (fun r6 s9 => (qv_icmp_ne C (tgt := 90) dX8_kindHere_81 (by decide) (fun _ => (qv_iinc C (v := (v5 + (1 : Int32))) dX8_kindHere_84 rfl rfl (by decide) rfl (qv_goto C (tgt := 36) dX8_kindHere_87 (by decide) (qV.weak [true, true, true, true, true, true] (hrk36 v1 v2 v3 v4 (v5 + (1 : Int32)) s9)))))
  (fun _ => (qV.weak [true, true, true, true, true, true] (jt_X8_kindHere_90 hl C hret ht  rk9 hrk9 v1 v2 v3 v4 v5 s9))))))))))))))))))))))))))))))))))
theorem lt_X8_kindHere_36 {p : Program} {l : Launch} {e : Env} {s : State} {m : MethodId} {args : Array Value} {below : List Frame} {meth : Method} {c : Code} {g : qG} (hl : l.stackTraces = false) (C : qC p l s m meth c cX8_kindHere 6 RX8 g) (hret : meth.sig.returnType = (some .int)) (ht : ∀ x ∈ c.exceptionTable.toList, False)  (rk9 : Int32 → Int32 → Int32 → qS → Option qO) (hrk9 : ∀ (v1 : Int32) (v2 : Int32) (v3 : Int32) (s0 : qS), qV p l e (qrm 5 0 0) s m args below meth c g 6 (qQf g below args s (qrm 5 0 0)) (rk9 v1 v2 v3 s0) 0 0 9 [some (qR 26 0), some (qI v1), some (qI v2), some (qI v3), none, none] [] s0) : ∀ (n : Nat) (v1 : Int32) (v2 : Int32) (v3 : Int32) (v4 : Int32) (v5 : Int32) (s0 : qS), qV p l e (qrm 5 0 0) s m args below meth c g 6 (qQf g below args s (qrm 5 0 0)) (l_X8_kindHere_36  rk9 n v1 v2 v3 v4 v5 s0) 0 0 36 [some (qR 26 0), some (qI v1), some (qI v2), some (qI v3), some (qI v4), some (qI v5)] [] s0
  | 0, _, _, _, _, _, _ => qV.no
  | n + 1, v1, v2, v3, v4, v5, s0 => bt_X8_kindHere_36 hl C hret ht  rk9 hrk9 _ (lt_X8_kindHere_36 hl C hret ht  rk9 hrk9 n) v1 v2 v3 v4 v5 s0
def b_X8_kindHere_9 (rk9 : Int32 → Int32 → Int32 → qS → Option qO) (v1 : Int32) (v2 : Int32) (v3 : Int32) (s0 : qS) : Option qO :=
  (if (8 : Int32) ≤ v3 then (if v2 = (-1 : Int32) then j_X8_kindHere_135  v2 v1 s0 else
  j_X8_kindHere_135  v2 (s0 26 0 20) s0) else
  (if v2 = (-1 : Int32) then qbind (f_X8_startOf (v3 + (1 : Int32)) s0) (qvI (fun r3 s6 =>
  qbind (f_X8_startOf v3 s6) (qvI (fun r4 s7 =>
  l_X8_kindHere_36  rk9 qFU v1 v2 v3 (r3 - r4) (0 : Int32) s7)) qE0)) qE0 else
  (if v2 = (-1 : Int32) then j_X8_kindHere_135  v2 v1 s0 else
  j_X8_kindHere_135  v2 (s0 26 0 20) s0)))
def l_X8_kindHere_9 : Nat → Int32 → Int32 → Int32 → qS → Option qO
  | 0, _, _, _, _ => none
  | n + 1, v1, v2, v3, s0 => b_X8_kindHere_9  (l_X8_kindHere_9  n) v1 v2 v3 s0
set_option maxRecDepth 100000 in
set_option maxHeartbeats 4000000 in
theorem bt_X8_kindHere_9 {p : Program} {l : Launch} {e : Env} {s : State} {m : MethodId} {args : Array Value} {below : List Frame} {meth : Method} {c : Code} {g : qG} (hl : l.stackTraces = false) (C : qC p l s m meth c cX8_kindHere 6 RX8 g) (hret : meth.sig.returnType = (some .int)) (ht : ∀ x ∈ c.exceptionTable.toList, False)  (rk9 : Int32 → Int32 → Int32 → qS → Option qO) (hrk9 : ∀ (v1 : Int32) (v2 : Int32) (v3 : Int32) (s0 : qS), qV p l e (qrm 5 0 0) s m args below meth c g 6 (qQf g below args s (qrm 5 0 0)) (rk9 v1 v2 v3 s0) 0 0 9 [some (qR 26 0), some (qI v1), some (qI v2), some (qI v3), none, none] [] s0) (v1 : Int32) (v2 : Int32) (v3 : Int32) (s0 : qS) : qV p l e (qrm 5 0 0) s m args below meth c g 6 (qQf g below args s (qrm 5 0 0)) (b_X8_kindHere_9  rk9 v1 v2 v3 s0) 0 0 9 [some (qR 26 0), some (qI v1), some (qI v2), some (qI v3), none, none] [] s0 :=
  (qv_iload_n C dX8_kindHere_9 rfl (qv_bipush C (v := (8 : Int32)) dX8_kindHere_10 (by decide) (qv_icmp_ge C (tgt := 121) dX8_kindHere_12 (by decide) (fun _ => (qv_aload_n C dX8_kindHere_121 rfl (qv_iload_n C dX8_kindHere_122 rfl (qv_iconst C (v := (-1 : Int32)) dX8_kindHere_123 (by decide) (qv_icmp_ne C (tgt := 131) dX8_kindHere_124 (by decide) (fun _ => (qv_iload_n C dX8_kindHere_127 rfl (qv_goto C (tgt := 135) dX8_kindHere_128 (by decide) (qV.weak [true, false, true, false, false, false] (jt_X8_kindHere_135 hl C hret ht  v2 v1 s0)))))
  (fun _ => (qv_aload_n C dX8_kindHere_131 rfl (qv_getI C fl_X8_203 cl_X8 rfl (by decide) (by decide) (by decide) rfl dX8_kindHere_132 (qV.weak [true, false, true, false, false, false] (jt_X8_kindHere_135 hl C hret ht  v2 (s0 26 0 20) s0))))))))))
  (fun _ => (qv_iload_n C dX8_kindHere_15 rfl (qv_iconst C (v := (-1 : Int32)) dX8_kindHere_16 (by decide) (qv_icmp_ne C (tgt := 121) dX8_kindHere_17 (by decide) (fun _ => (qv_iload_n C dX8_kindHere_20 rfl (qv_iconst C (v := (1 : Int32)) dX8_kindHere_21 (by decide) (qv_iadd C dX8_kindHere_22 (qv_callS C (rest := []) (cb := 0) (sb := 0) (t_X8_startOf hl (v3 + (1 : Int32)) s0) mw_X8_startOf lk_X8_215 st_X8_startOf rfl (Nat.le_of_ble_eq_true rfl) (by decide) dX8_kindHere_23 rfl (qkI (fun r3 s6 => (qv_iload_n C dX8_kindHere_26 rfl (qv_callS C (rest := [qI r3]) (cb := 0) (sb := 0) (t_X8_startOf hl v3 s6) mw_X8_startOf lk_X8_215 st_X8_startOf rfl (Nat.le_of_ble_eq_true rfl) (by decide) dX8_kindHere_27 rfl (qkI (fun r4 s7 => (qv_isub C dX8_kindHere_30 (qv_istore C dX8_kindHere_31 (by decide) rfl (qv_iconst C (v := (0 : Int32)) dX8_kindHere_33 (by decide) (qv_istore C dX8_kindHere_34 (by decide) rfl (qV.weak [true, true, true, true, true, true] (lt_X8_kindHere_36 hl C hret ht  rk9 hrk9 qFU v1 v2 v3 (r3 - r4) (0 : Int32) s7)))))))))))))))))
  (fun _ => (qv_aload_n C dX8_kindHere_121 rfl (qv_iload_n C dX8_kindHere_122 rfl (qv_iconst C (v := (-1 : Int32)) dX8_kindHere_123 (by decide) (qv_icmp_ne C (tgt := 131) dX8_kindHere_124 (by decide) (fun _ => (qv_iload_n C dX8_kindHere_127 rfl (qv_goto C (tgt := 135) dX8_kindHere_128 (by decide) (qV.weak [true, false, true, false, false, false] (jt_X8_kindHere_135 hl C hret ht  v2 v1 s0)))))
  (fun _ => (qv_aload_n C dX8_kindHere_131 rfl (qv_getI C fl_X8_203 cl_X8 rfl (by decide) (by decide) (by decide) rfl dX8_kindHere_132 (qV.weak [true, false, true, false, false, false] (jt_X8_kindHere_135 hl C hret ht  v2 (s0 26 0 20) s0)))))))))))))))))
theorem lt_X8_kindHere_9 {p : Program} {l : Launch} {e : Env} {s : State} {m : MethodId} {args : Array Value} {below : List Frame} {meth : Method} {c : Code} {g : qG} (hl : l.stackTraces = false) (C : qC p l s m meth c cX8_kindHere 6 RX8 g) (hret : meth.sig.returnType = (some .int)) (ht : ∀ x ∈ c.exceptionTable.toList, False)  : ∀ (n : Nat) (v1 : Int32) (v2 : Int32) (v3 : Int32) (s0 : qS), qV p l e (qrm 5 0 0) s m args below meth c g 6 (qQf g below args s (qrm 5 0 0)) (l_X8_kindHere_9  n v1 v2 v3 s0) 0 0 9 [some (qR 26 0), some (qI v1), some (qI v2), some (qI v3), none, none] [] s0
  | 0, _, _, _, _ => qV.no
  | n + 1, v1, v2, v3, s0 => bt_X8_kindHere_9 hl C hret ht  _ (lt_X8_kindHere_9 hl C hret ht  n) v1 v2 v3 s0
def f_X8_kindHere  (s0 : qS) : Option qO :=
  l_X8_kindHere_9  qFU (s0 26 0 19) (-1 : Int32) (0 : Int32) s0
set_option maxRecDepth 100000 in
set_option maxHeartbeats 4000000 in
theorem t_X8_kindHere {g : qG} {l : Launch} (hl : l.stackTraces = false)  (s0 : qS) : qM g l 5 0 0 (.code yX8_kindHere cX8_kindHere 6 (some .int)) yX8_kindHere [qR 26 0] s0 (f_X8_kindHere  s0) := by
  refine qM_of (by decide +kernel) hl (List.forall_mem_cons.mpr ⟨rfl, (fun _ h => absurd h List.not_mem_nil)⟩) (Nat.le_of_ble_eq_true rfl) ?_
  intro p e s m args below meth c C hret ht
  show qV p l e _ s m args below meth c g _ _ _ _ _ 0 [some (qR 26 0), none, none, none, none, none] [] s0
  exact (qv_aload_n C dX8_kindHere_0 rfl (qv_getI C fl_X8_197 cl_X8 rfl (by decide) (by decide) (by decide) rfl dX8_kindHere_1 (qv_istore_n C dX8_kindHere_4 (by decide) rfl (qv_iconst C (v := (-1 : Int32)) dX8_kindHere_5 (by decide) (qv_istore_n C dX8_kindHere_6 (by decide) rfl (qv_iconst C (v := (0 : Int32)) dX8_kindHere_7 (by decide) (qv_istore_n C dX8_kindHere_8 (by decide) rfl (qV.weak [true, true, true, true, false, false] (lt_X8_kindHere_9 hl C hret ht  qFU (s0 26 0 19) (-1 : Int32) (0 : Int32) s0)))))))))
def b_X8_readsTask_2 (rk2 : Int32 → Int32 → qS → Option qO) (v1 : Int32) (v2 : Int32) (s0 : qS) : Option qO :=
  (if (4 : Int32) ≤ v2 then qbind (f_X8_number  s0) (qvI (fun r1 s1 =>
  (if qin (v1 + (4 : Int32)) 150 then qlet (qu s1 37 0 ((v1 + (4 : Int32))).toNatClampNeg r1) (fun s2 =>
  (some (.inl none, s2))) else none))) qE0 else
  qbind (f_X8_digit  s0) (qvI (fun r2 s3 =>
  (if qin (v1 + v2) 150 then qlet (qu s3 37 0 ((v1 + v2)).toNatClampNeg r2) (fun s4 =>
  qbind (f_X8_sign (32 : Int32) s4) (qvV (fun s5 =>
  rk2 v1 (v2 + (1 : Int32)) s5)) qE0) else none))) qE0)
def l_X8_readsTask_2 : Nat → Int32 → Int32 → qS → Option qO
  | 0, _, _, _ => none
  | n + 1, v1, v2, s0 => b_X8_readsTask_2  (l_X8_readsTask_2  n) v1 v2 s0
set_option maxRecDepth 100000 in
set_option maxHeartbeats 4000000 in
theorem bt_X8_readsTask_2 {p : Program} {l : Launch} {e : Env} {s : State} {m : MethodId} {args : Array Value} {below : List Frame} {meth : Method} {c : Code} {g : qG} (hl : l.stackTraces = false) (C : qC p l s m meth c cX8_readsTask 3 RX8 g) (hret : meth.sig.returnType = none) (ht : ∀ x ∈ c.exceptionTable.toList, False)  (rk2 : Int32 → Int32 → qS → Option qO) (hrk2 : ∀ (v1 : Int32) (v2 : Int32) (s0 : qS), qV p l e (qrm 5 0 0) s m args below meth c g 3 (qQf g below args s (qrm 5 0 0)) (rk2 v1 v2 s0) 0 0 2 [some (qR 26 0), some (qI v1), some (qI v2)] [] s0) (v1 : Int32) (v2 : Int32) (s0 : qS) : qV p l e (qrm 5 0 0) s m args below meth c g 3 (qQf g below args s (qrm 5 0 0)) (b_X8_readsTask_2  rk2 v1 v2 s0) 0 0 2 [some (qR 26 0), some (qI v1), some (qI v2)] [] s0 :=
  (qv_iload_n C dX8_readsTask_2 rfl (qv_iconst C (v := (4 : Int32)) dX8_readsTask_3 (by decide) (qv_icmp_ge C (tgt := 31) dX8_readsTask_4 (by decide) (fun _ => (qv_aload_n C dX8_readsTask_31 rfl (qv_getR C (j2 := 0) fl_X8_47 cl_X8 rfl (by decide) (by decide) (by decide) rfl rfl dX8_readsTask_32 (qv_iload_n C dX8_readsTask_35 rfl (qv_iconst C (v := (4 : Int32)) dX8_readsTask_36 (by decide) (qv_iadd C dX8_readsTask_37 (qv_aload_n C dX8_readsTask_38 rfl (qv_callV C (rest := [qI (v1 + (4 : Int32)), qR 37 0]) (cb := 0) (sb := 0) (t_X8_number hl  s0) mw_X8_number lk_X8_229 in_X8_number se_X8_number rfl (by decide) (by decide) rfl rfl (Nat.le_of_ble_eq_true rfl) (by decide) dX8_readsTask_39 rfl (qkI (fun r1 s1 => (qv_iast C rfl rfl (by decide) (by decide) dX8_readsTask_42 (fun _ => (qv_let (fun s2 => (qv_vret C hret dX8_readsTask_43)))))))))))))))
  (fun _ => (qv_aload_n C dX8_readsTask_7 rfl (qv_getR C (j2 := 0) fl_X8_47 cl_X8 rfl (by decide) (by decide) (by decide) rfl rfl dX8_readsTask_8 (qv_iload_n C dX8_readsTask_11 rfl (qv_iload_n C dX8_readsTask_12 rfl (qv_iadd C dX8_readsTask_13 (qv_aload_n C dX8_readsTask_14 rfl (qv_callV C (rest := [qI (v1 + v2), qR 37 0]) (cb := 0) (sb := 0) (t_X8_digit hl  s0) mw_X8_digit lk_X8_212 in_X8_digit se_X8_digit rfl (by decide) (by decide) rfl rfl (Nat.le_of_ble_eq_true rfl) (by decide) dX8_readsTask_15 rfl (qkI (fun r2 s3 => (qv_iast C rfl rfl (by decide) (by decide) dX8_readsTask_18 (fun _ => (qv_let (fun s4 => (qv_aload_n C dX8_readsTask_19 rfl (qv_bipush C (v := (32 : Int32)) dX8_readsTask_20 (by decide) (qv_callV C (rest := []) (cb := 0) (sb := 0) (t_X8_sign hl (32 : Int32) s4) mw_X8_sign lk_X8_226 in_X8_sign se_X8_sign rfl (by decide) (by decide) rfl rfl (Nat.le_of_ble_eq_true rfl) (by decide) dX8_readsTask_22 rfl (qkV (fun s5 => (qv_iinc C (v := (v2 + (1 : Int32))) dX8_readsTask_25 rfl rfl (by decide) rfl (qv_goto C (tgt := 2) dX8_readsTask_28 (by decide) (qV.weak [true, true, true] (hrk2 v1 (v2 + (1 : Int32)) s5))))))))))))))))))))))))))
theorem lt_X8_readsTask_2 {p : Program} {l : Launch} {e : Env} {s : State} {m : MethodId} {args : Array Value} {below : List Frame} {meth : Method} {c : Code} {g : qG} (hl : l.stackTraces = false) (C : qC p l s m meth c cX8_readsTask 3 RX8 g) (hret : meth.sig.returnType = none) (ht : ∀ x ∈ c.exceptionTable.toList, False)  : ∀ (n : Nat) (v1 : Int32) (v2 : Int32) (s0 : qS), qV p l e (qrm 5 0 0) s m args below meth c g 3 (qQf g below args s (qrm 5 0 0)) (l_X8_readsTask_2  n v1 v2 s0) 0 0 2 [some (qR 26 0), some (qI v1), some (qI v2)] [] s0
  | 0, _, _, _ => qV.no
  | n + 1, v1, v2, s0 => bt_X8_readsTask_2 hl C hret ht  _ (lt_X8_readsTask_2 hl C hret ht  n) v1 v2 s0
def f_X8_readsTask (a1 : Int32) (s0 : qS) : Option qO :=
  l_X8_readsTask_2  qFU a1 (1 : Int32) s0
set_option maxRecDepth 100000 in
set_option maxHeartbeats 4000000 in
theorem t_X8_readsTask {g : qG} {l : Launch} (hl : l.stackTraces = false) (a1 : Int32) (s0 : qS) : qM g l 5 0 0 (.code yX8_readsTask cX8_readsTask 3 none) yX8_readsTask [qR 26 0, qI a1] s0 (f_X8_readsTask a1 s0) := by
  refine qM_of (by decide +kernel) hl (List.forall_mem_cons.mpr ⟨rfl, (List.forall_mem_cons.mpr ⟨rfl, (fun _ h => absurd h List.not_mem_nil)⟩)⟩) (Nat.le_of_ble_eq_true rfl) ?_
  intro p e s m args below meth c C hret ht
  show qV p l e _ s m args below meth c g _ _ _ _ _ 0 [some (qR 26 0), some (qI a1), none] [] s0
  exact (qv_iconst C (v := (1 : Int32)) dX8_readsTask_0 (by decide) (qv_istore_n C dX8_readsTask_1 (by decide) rfl (qV.weak [true, true, true] (lt_X8_readsTask_2 hl C hret ht  qFU a1 (1 : Int32) s0))))
def j_X8_readsCommand_96 (v1 : Int32) (v2 : Int32) (w1 : Int32) (s0 : qS) : Option qO :=
  qbind (f_X8_sign w1 s0) (qvV (fun s7 =>
  (if v2 = (5 : Int32) then qbind (f_X8_digit  s7) (qvI (fun r3 s8 =>
  (if qin (v1 + (2 : Int32)) 150 then qlet (qu s8 37 0 ((v1 + (2 : Int32))).toNatClampNeg r3) (fun s9 =>
  (some (.inl none, s9))) else none))) qE0 else
  qbind (f_X8_number  s7) (qvI (fun r4 s10 =>
  (if qin (v1 + (2 : Int32)) 150 then qlet (qu s10 37 0 ((v1 + (2 : Int32))).toNatClampNeg r4) (fun s11 =>
  (some (.inl none, s11))) else none))) qE0))) qE0
set_option maxRecDepth 100000 in
set_option maxHeartbeats 4000000 in
theorem jt_X8_readsCommand_96 {p : Program} {l : Launch} {e : Env} {s : State} {m : MethodId} {args : Array Value} {below : List Frame} {meth : Method} {c : Code} {g : qG} (hl : l.stackTraces = false) (C : qC p l s m meth c cX8_readsCommand 3 RX8 g) (hret : meth.sig.returnType = none) (ht : ∀ x ∈ c.exceptionTable.toList, False)  (v1 : Int32) (v2 : Int32) (w1 : Int32) (s0 : qS) : qV p l e (qrm 6 0 0) s m args below meth c g 3 (qQf g below args s (qrm 6 0 0)) (j_X8_readsCommand_96  v1 v2 w1 s0) 0 0 96 [some (qR 26 0), some (qI v1), some (qI v2)] [qI w1, qR 26 0] s0 :=
  (qv_callV C (rest := []) (cb := 0) (sb := 0) (t_X8_sign hl w1 s0) mw_X8_sign lk_X8_226 in_X8_sign se_X8_sign rfl (by decide) (by decide) rfl rfl (Nat.le_of_ble_eq_true rfl) (by decide) dX8_readsCommand_96 rfl (qkV (fun s7 => (qv_aload_n C dX8_readsCommand_99 rfl (qv_getR C (j2 := 0) fl_X8_47 cl_X8 rfl (by decide) (by decide) (by decide) rfl rfl dX8_readsCommand_100 (qv_iload_n C dX8_readsCommand_103 rfl (qv_iconst C (v := (2 : Int32)) dX8_readsCommand_104 (by decide) (qv_iadd C dX8_readsCommand_105 (qv_iload_n C dX8_readsCommand_106 rfl (qv_iconst C (v := (5 : Int32)) dX8_readsCommand_107 (by decide) (qv_icmp_ne C (tgt := 118) dX8_readsCommand_108 (by decide) (fun _ => (qv_aload_n C dX8_readsCommand_111 rfl (qv_callV C (rest := [qI (v1 + (2 : Int32)), qR 37 0]) (cb := 0) (sb := 0) (t_X8_digit hl  s7) mw_X8_digit lk_X8_212 in_X8_digit se_X8_digit rfl (by decide) (by decide) rfl rfl (Nat.le_of_ble_eq_true rfl) (by decide) dX8_readsCommand_112 rfl (qkI (fun r3 s8 => (qv_goto C (tgt := 122) dX8_readsCommand_115 (by decide) (qv_iast C rfl rfl (by decide) (by decide) dX8_readsCommand_122 (fun _ => (qv_let (fun s9 => (qv_vret C hret dX8_readsCommand_123)))))))))))
  (fun _ => (qv_aload_n C dX8_readsCommand_118 rfl (qv_callV C (rest := [qI (v1 + (2 : Int32)), qR 37 0]) (cb := 0) (sb := 0) (t_X8_number hl  s7) mw_X8_number lk_X8_229 in_X8_number se_X8_number rfl (by decide) (by decide) rfl rfl (Nat.le_of_ble_eq_true rfl) (by decide) dX8_readsCommand_119 rfl (qkI (fun r4 s10 => (qv_iast C rfl rfl (by decide) (by decide) dX8_readsCommand_122 (fun _ => (qv_let (fun s11 => (qv_vret C hret dX8_readsCommand_123)))))))))))))))))))))
def j_X8_readsCommand_77 (v1 : Int32) (v2 : Int32) (w1 : Int32) (w2 : Int32) (s0 : qS) : Option qO :=
  (if qin w1 150 then qlet (qu s0 37 0 (w1).toNatClampNeg w2) (fun s6 =>
  (if v2 ≤ (1 : Int32) then (some (.inl none, s6)) else
  (if (4 : Int32) ≤ v2 then j_X8_readsCommand_96  v1 v2 (32 : Int32) s6 else
  j_X8_readsCommand_96  v1 v2 (62 : Int32) s6))) else none)
set_option maxRecDepth 100000 in
set_option maxHeartbeats 4000000 in
theorem jt_X8_readsCommand_77 {p : Program} {l : Launch} {e : Env} {s : State} {m : MethodId} {args : Array Value} {below : List Frame} {meth : Method} {c : Code} {g : qG} (hl : l.stackTraces = false) (C : qC p l s m meth c cX8_readsCommand 3 RX8 g) (hret : meth.sig.returnType = none) (ht : ∀ x ∈ c.exceptionTable.toList, False)  (v1 : Int32) (v2 : Int32) (w1 : Int32) (w2 : Int32) (s0 : qS) : qV p l e (qrm 6 0 0) s m args below meth c g 3 (qQf g below args s (qrm 6 0 0)) (j_X8_readsCommand_77  v1 v2 w1 w2 s0) 0 0 77 [some (qR 26 0), some (qI v1), some (qI v2)] [qI w2, qI w1, qR 37 0] s0 :=
  (qv_iast C rfl rfl (by decide) (by decide) dX8_readsCommand_77 (fun _ => (qv_let (fun s6 => (qv_iload_n C dX8_readsCommand_78 rfl (qv_iconst C (v := (1 : Int32)) dX8_readsCommand_79 (by decide) (qv_icmp_le C (tgt := 123) dX8_readsCommand_80 (by decide) (fun _ => (qv_vret C hret dX8_readsCommand_123))
  (fun _ => (qv_aload_n C dX8_readsCommand_83 rfl (qv_iload_n C dX8_readsCommand_84 rfl (qv_iconst C (v := (4 : Int32)) dX8_readsCommand_85 (by decide) (qv_icmp_ge C (tgt := 94) dX8_readsCommand_86 (by decide) (fun _ => (qv_bipush C (v := (32 : Int32)) dX8_readsCommand_94 (by decide) (qV.weak [true, true, true] (jt_X8_readsCommand_96 hl C hret ht  v1 v2 (32 : Int32) s6))))
  (fun _ => (qv_bipush C (v := (62 : Int32)) dX8_readsCommand_89 (by decide) (qv_goto C (tgt := 96) dX8_readsCommand_91 (by decide) (qV.weak [true, true, true] (jt_X8_readsCommand_96 hl C hret ht  v1 v2 (62 : Int32) s6)))))))))))))))))
def f_X8_readsCommand  (s0 : qS) : Option qO :=
  qbind (f_X8_kindHere  s0) (qvI (fun r1 s1 =>
  (if qin ((5 : Int32) * (s0 26 0 21)) 150 then qlet (qu s1 37 0 (((5 : Int32) * (s0 26 0 21))).toNatClampNeg r1) (fun s2 =>
  qlet (qu s2 26 0 21 ((s2 26 0 21) + (1 : Int32))) (fun s3 =>
  (if (s3 26 0 20) = (-1 : Int32) then (if r1 = (7 : Int32) then (some (.inl none, s3)) else
  (if r1 = 0 then qbind (f_X8_readsTask ((5 : Int32) * (s0 26 0 21)) s3) (qvV (fun s4 =>
  (some (.inl none, s4)))) qE0 else
  (if r1 = (4 : Int32) then qbind (f_X8_digit  s3) (qvI (fun r2 s5 =>
  j_X8_readsCommand_77  ((5 : Int32) * (s0 26 0 21)) r1 (((5 : Int32) * (s0 26 0 21)) + (1 : Int32)) r2 s5)) qE0 else
  qbind (f_X8_number  s3) (qvI (fun r5 s12 =>
  j_X8_readsCommand_77  ((5 : Int32) * (s0 26 0 21)) r1 (((5 : Int32) * (s0 26 0 21)) + (1 : Int32)) r5 s12)) qE0))) else
  (some (.inl none, s3))))) else none))) qE0
set_option maxRecDepth 100000 in
set_option maxHeartbeats 4000000 in
theorem t_X8_readsCommand {g : qG} {l : Launch} (hl : l.stackTraces = false)  (s0 : qS) : qM g l 6 0 0 (.code yX8_readsCommand cX8_readsCommand 3 none) yX8_readsCommand [qR 26 0] s0 (f_X8_readsCommand  s0) := by
  refine qM_of (by decide +kernel) hl (List.forall_mem_cons.mpr ⟨rfl, (fun _ h => absurd h List.not_mem_nil)⟩) (Nat.le_of_ble_eq_true rfl) ?_
  intro p e s m args below meth c C hret ht
  show qV p l e _ s m args below meth c g _ _ _ _ _ 0 [some (qR 26 0), none, none] [] s0
  exact (qv_iconst C (v := (5 : Int32)) dX8_readsCommand_0 (by decide) (qv_aload_n C dX8_readsCommand_1 rfl (qv_getI C fl_X8_232 cl_X8 rfl (by decide) (by decide) (by decide) rfl dX8_readsCommand_2 (qv_imul C dX8_readsCommand_5 (qv_istore_n C dX8_readsCommand_6 (by decide) rfl (qv_aload_n C dX8_readsCommand_7 rfl (qv_callV C (rest := []) (cb := 0) (sb := 0) (t_X8_kindHere hl  s0) mw_X8_kindHere lk_X8_235 in_X8_kindHere se_X8_kindHere rfl (by decide) (by decide) rfl rfl (Nat.le_of_ble_eq_true rfl) (by decide) dX8_readsCommand_8 rfl (qkI (fun r1 s1 => (qv_istore_n C dX8_readsCommand_11 (by decide) rfl (qv_aload_n C dX8_readsCommand_12 rfl (qv_getR C (j2 := 0) fl_X8_47 cl_X8 rfl (by decide) (by decide) (by decide) rfl rfl dX8_readsCommand_13 (qv_iload_n C dX8_readsCommand_16 rfl (qv_iload_n C dX8_readsCommand_17 rfl (qv_iast C rfl rfl (by decide) (by decide) dX8_readsCommand_18 (fun _ => (qv_let (fun s2 => (qv_aload_n C dX8_readsCommand_19 rfl (qv_dup C dX8_readsCommand_20 rfl (qv_getI C fl_X8_232 cl_X8 rfl (by decide) (by decide) (by decide) rfl dX8_readsCommand_21 (qv_iconst C (v := (1 : Int32)) dX8_readsCommand_24 (by decide) (qv_iadd C dX8_readsCommand_25 (qv_putI C fl_X8_232 cl_X8 rfl (by decide) (by decide) (by decide) rfl rfl rfl (qin_nar _) (qin_fits _) dX8_readsCommand_26 (qv_let (fun s3 => (qv_aload_n C dX8_readsCommand_29 rfl (qv_getI C fl_X8_203 cl_X8 rfl (by decide) (by decide) (by decide) rfl dX8_readsCommand_30 (qv_iconst C (v := (-1 : Int32)) dX8_readsCommand_33 (by decide) (qv_icmp_ne C (tgt := 43) dX8_readsCommand_34 (by decide) (fun _ => (qv_iload_n C dX8_readsCommand_37 rfl (qv_bipush C (v := (7 : Int32)) dX8_readsCommand_38 (by decide) (qv_icmp_ne C (tgt := 44) dX8_readsCommand_40 (by decide) (fun _ => (qv_vret C hret dX8_readsCommand_43))
  (fun _ => (qv_iload_n C dX8_readsCommand_44 rfl (qv_if_ne C (tgt := 54) dX8_readsCommand_45 (by decide) (fun _ => (qv_aload_n C dX8_readsCommand_48 rfl (qv_iload_n C dX8_readsCommand_49 rfl (qv_callV C (rest := []) (cb := 0) (sb := 0) (t_X8_readsTask hl ((5 : Int32) * (s0 26 0 21)) s3) mw_X8_readsTask lk_X8_238 in_X8_readsTask se_X8_readsTask rfl (by decide) (by decide) rfl rfl (Nat.le_of_ble_eq_true rfl) (by decide) dX8_readsCommand_50 rfl (qkV (fun s4 => (qv_vret C hret dX8_readsCommand_53)))))))
  (fun _ => (qv_aload_n C dX8_readsCommand_54 rfl (qv_getR C (j2 := 0) fl_X8_47 cl_X8 rfl (by decide) (by decide) (by decide) rfl rfl dX8_readsCommand_55 (qv_iload_n C dX8_readsCommand_58 rfl (qv_iconst C (v := (1 : Int32)) dX8_readsCommand_59 (by decide) (qv_iadd C dX8_readsCommand_60 (qv_iload_n C dX8_readsCommand_61 rfl (qv_iconst C (v := (4 : Int32)) dX8_readsCommand_62 (by decide) (qv_icmp_ne C (tgt := 73) dX8_readsCommand_63 (by decide) (fun _ => (qv_aload_n C dX8_readsCommand_66 rfl (qv_callV C (rest := [qI (((5 : Int32) * (s0 26 0 21)) + (1 : Int32)), qR 37 0]) (cb := 0) (sb := 0) (t_X8_digit hl  s3) mw_X8_digit lk_X8_212 in_X8_digit se_X8_digit rfl (by decide) (by decide) rfl rfl (Nat.le_of_ble_eq_true rfl) (by decide) dX8_readsCommand_67 rfl (qkI (fun r2 s5 => (qv_goto C (tgt := 77) dX8_readsCommand_70 (by decide) (qV.weak [true, true, true] (jt_X8_readsCommand_77 hl C hret ht  ((5 : Int32) * (s0 26 0 21)) r1 (((5 : Int32) * (s0 26 0 21)) + (1 : Int32)) r2 s5))))))))
  (fun _ => (qv_aload_n C dX8_readsCommand_73 rfl (qv_callV C (rest := [qI (((5 : Int32) * (s0 26 0 21)) + (1 : Int32)), qR 37 0]) (cb := 0) (sb := 0) (t_X8_number hl  s3) mw_X8_number lk_X8_229 in_X8_number se_X8_number rfl (by decide) (by decide) rfl rfl (Nat.le_of_ble_eq_true rfl) (by decide) dX8_readsCommand_74 rfl (qkI (fun r5 s12 => (qV.weak [true, true, true] (jt_X8_readsCommand_77 hl C hret ht  ((5 : Int32) * (s0 26 0 21)) r1 (((5 : Int32) * (s0 26 0 21)) + (1 : Int32)) r5 s12)))))))))))))))))))))))
  (fun _ => (qv_vret C hret dX8_readsCommand_43))))))))))))))))))))))))))))))))
