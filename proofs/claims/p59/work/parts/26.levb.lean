/-! the class, b (printed by wip/whole/gen) -/
def b_X7_peakUsage_14 (rk14 : Int32 → Int32 → Int32 → qS → Option qO) (v1 : Int32) (v3 : Int32) (v4 : Int32) (s0 : qS) : Option qO :=
  (if (138 : Int32) ≤ v4 then (some (.inl (some (qI v3)), s0)) else
  qbind (f_X4_usedOn v1 v4 s0) (qvI (fun r1 s3 =>
  rk14 v1 (qmax v3 r1) (v4 + (1 : Int32)) s3)) qE0)
def l_X7_peakUsage_14 : Nat → Int32 → Int32 → Int32 → qS → Option qO
  | 0, _, _, _, _ => none
  | n + 1, v1, v3, v4, s0 => b_X7_peakUsage_14  (l_X7_peakUsage_14  n) v1 v3 v4 s0
set_option maxRecDepth 100000 in
set_option maxHeartbeats 4000000 in
theorem bt_X7_peakUsage_14 {p : Program} {l : Launch} {e : Env} {s : State} {m : MethodId} {args : Array Value} {below : List Frame} {meth : Method} {c : Code} {g : qG} (hl : l.stackTraces = false) (C : qC p l s m meth c cX7_peakUsage 5 RX7 g) (hret : meth.sig.returnType = (some .int)) (ht : ∀ x ∈ c.exceptionTable.toList, False)  (rk14 : Int32 → Int32 → Int32 → qS → Option qO) (hrk14 : ∀ (v1 : Int32) (v3 : Int32) (v4 : Int32) (s0 : qS), qV p l e (qrm 24 1 6) s m args below meth c g 5 (qQf g below args s (qrm 24 1 6)) (rk14 v1 v3 v4 s0) 0 0 14 [none, some (qI v1), some (qR 11 0), some (qI v3), some (qI v4)] [] s0) (v1 : Int32) (v3 : Int32) (v4 : Int32) (s0 : qS) : qV p l e (qrm 24 1 6) s m args below meth c g 5 (qQf g below args s (qrm 24 1 6)) (b_X7_peakUsage_14  rk14 v1 v3 v4 s0) 0 0 14 [none, some (qI v1), some (qR 11 0), some (qI v3), some (qI v4)] [] s0 :=
  (qv_iload C dX7_peakUsage_14 rfl (qv_sipush C (v := (138 : Int32)) dX7_peakUsage_16 (by decide) (qv_icmp_ge C (tgt := 40) dX7_peakUsage_19 (by decide) (fun _ => (qv_iload_n C dX7_peakUsage_40 rfl (qv_iret C hret dX7_peakUsage_41)))
  (fun _ => (qv_iload_n C dX7_peakUsage_22 rfl (qv_aload_n C dX7_peakUsage_23 rfl (qv_iload_n C dX7_peakUsage_24 rfl (qv_iload C dX7_peakUsage_25 rfl (qv_callVN C (rest := [qI v3]) (cb := 0) (sb := 0) (t_X4_usedOn hl v1 v4 s0) mw_X4_usedOn lk_X7_213 in_X4_usedOn se_X4_usedOn rfl (by decide) (by decide) rfl rfl (Nat.le_of_ble_eq_true rfl) (by decide) dX7_peakUsage_27 rfl (qkI (fun r1 s3 => (qv_mmax C lk_X7_220 mm_max (Nat.le_of_ble_eq_true rfl) (by decide) dX7_peakUsage_30 (qv_istore_n C dX7_peakUsage_33 (by decide) rfl (qv_iinc C (v := (v4 + (1 : Int32))) dX7_peakUsage_34 rfl rfl (by decide) rfl (qv_goto C (tgt := 14) dX7_peakUsage_37 (by decide) (qV.weak [false, true, true, true, true] (hrk14 v1 (qmax v3 r1) (v4 + (1 : Int32)) s3)))))))))))))))))
theorem lt_X7_peakUsage_14 {p : Program} {l : Launch} {e : Env} {s : State} {m : MethodId} {args : Array Value} {below : List Frame} {meth : Method} {c : Code} {g : qG} (hl : l.stackTraces = false) (C : qC p l s m meth c cX7_peakUsage 5 RX7 g) (hret : meth.sig.returnType = (some .int)) (ht : ∀ x ∈ c.exceptionTable.toList, False)  : ∀ (n : Nat) (v1 : Int32) (v3 : Int32) (v4 : Int32) (s0 : qS), qV p l e (qrm 24 1 6) s m args below meth c g 5 (qQf g below args s (qrm 24 1 6)) (l_X7_peakUsage_14  n v1 v3 v4 s0) 0 0 14 [none, some (qI v1), some (qR 11 0), some (qI v3), some (qI v4)] [] s0
  | 0, _, _, _, _ => qV.no
  | n + 1, v1, v3, v4, s0 => bt_X7_peakUsage_14 hl C hret ht  _ (lt_X7_peakUsage_14 hl C hret ht  n) v1 v3 v4 s0
def f_X7_peakUsage (a1 : Int32) (s0 : qS) : Option qO :=
  qbind (f_X7_requireResource a1 s0) (qvV (fun s1 =>
  qbind (f_X7_currentPlan  s1) (qvS 11 (fun s2 =>
  l_X7_peakUsage_14  qFU a1 (0 : Int32) (0 : Int32) s2)) qE0)) qE1
set_option maxRecDepth 100000 in
set_option maxHeartbeats 4000000 in
theorem t_X7_peakUsage {g : qG} {l : Launch} (hl : l.stackTraces = false) (a1 : Int32) (s0 : qS) : qM g l 24 1 6 (.code yX7_peakUsage cX7_peakUsage 5 (some .int)) yX7_peakUsage [qR 0 0, qI a1] s0 (f_X7_peakUsage a1 s0) := by
  refine qM_of (by decide +kernel) hl (List.forall_mem_cons.mpr ⟨rfl, (List.forall_mem_cons.mpr ⟨rfl, (fun _ h => absurd h List.not_mem_nil)⟩)⟩) (Nat.le_of_ble_eq_true rfl) ?_
  intro p e s m args below meth c C hret ht
  show qV p l e _ s m args below meth c g _ _ _ _ _ 0 [some (qR 0 0), some (qI a1), none, none, none] [] s0
  exact (qv_iload_n C dX7_peakUsage_0 rfl (qt_callS C (rest := []) (cb := 0) (sb := 0) (t_X7_requireResource hl a1 s0) mw_X7_requireResource lk_X7_158 st_X7_requireResource rfl (Nat.le_of_ble_eq_true rfl) (by decide) dX7_peakUsage_1 rfl ht (qkV (fun s1 => (qv_aload_n C dX7_peakUsage_4 rfl (qv_callV C (rest := []) (cb := 0) (sb := 0) (t_X7_currentPlan hl  s1) mw_X7_currentPlan lk_X7_135 in_X7_currentPlan se_X7_currentPlan rfl (by decide) (by decide) rfl rfl (Nat.le_of_ble_eq_true rfl) (by decide) dX7_peakUsage_5 rfl (qkOne (fun s2 => (qv_astore_n C dX7_peakUsage_8 (by decide) rfl (qv_iconst C (v := (0 : Int32)) dX7_peakUsage_9 (by decide) (qv_istore_n C dX7_peakUsage_10 (by decide) rfl (qv_iconst C (v := (0 : Int32)) dX7_peakUsage_11 (by decide) (qv_istore C dX7_peakUsage_12 (by decide) rfl (qV.weak [false, true, true, true, true] (lt_X7_peakUsage_14 hl C hret ht  qFU a1 (0 : Int32) (0 : Int32) s2)))))))))))))))
def b_X7_tasksOn_8 (rk8 : Int32 → Int32 → Int32 → qS → Option qO) (v1 : Int32) (v2 : Int32) (v3 : Int32) (s0 : qS) : Option qO :=
  (if (s0 1 0 7) ≤ v3 then (some (.inl (some (qI v2)), s0)) else
  qbind (f_X7_isWorkedOn v3 v1 s0) (qvI (fun r1 s2 =>
  (if r1 = 0 then rk8 v1 v2 (v3 + (1 : Int32)) s2 else
  rk8 v1 (v2 + (1 : Int32)) (v3 + (1 : Int32)) s2))) qE0)
def l_X7_tasksOn_8 : Nat → Int32 → Int32 → Int32 → qS → Option qO
  | 0, _, _, _, _ => none
  | n + 1, v1, v2, v3, s0 => b_X7_tasksOn_8  (l_X7_tasksOn_8  n) v1 v2 v3 s0
set_option maxRecDepth 100000 in
set_option maxHeartbeats 4000000 in
theorem bt_X7_tasksOn_8 {p : Program} {l : Launch} {e : Env} {s : State} {m : MethodId} {args : Array Value} {below : List Frame} {meth : Method} {c : Code} {g : qG} (hl : l.stackTraces = false) (C : qC p l s m meth c cX7_tasksOn 4 RX7 g) (hret : meth.sig.returnType = (some .int)) (ht : ∀ x ∈ c.exceptionTable.toList, False)  (rk8 : Int32 → Int32 → Int32 → qS → Option qO) (hrk8 : ∀ (v1 : Int32) (v2 : Int32) (v3 : Int32) (s0 : qS), qV p l e (qrm 25 1 6) s m args below meth c g 4 (qQf g below args s (qrm 25 1 6)) (rk8 v1 v2 v3 s0) 0 0 8 [some (qR 0 0), some (qI v1), some (qI v2), some (qI v3)] [] s0) (v1 : Int32) (v2 : Int32) (v3 : Int32) (s0 : qS) : qV p l e (qrm 25 1 6) s m args below meth c g 4 (qQf g below args s (qrm 25 1 6)) (b_X7_tasksOn_8  rk8 v1 v2 v3 s0) 0 0 8 [some (qR 0 0), some (qI v1), some (qI v2), some (qI v3)] [] s0 :=
  (qv_iload_n C dX7_tasksOn_8 rfl (qv_aload_n C dX7_tasksOn_9 rfl (qv_getR C (j2 := 0) fl_X7_12 cl_X7 rfl (by decide) (by decide) (by decide) rfl rfl dX7_tasksOn_10 (qv_getI C fl_X7_88 cl_X5 rfl (by decide) (by decide) (by decide) rfl dX7_tasksOn_13 (qv_icmp_ge C (tgt := 37) dX7_tasksOn_16 (by decide) (fun _ => (qv_iload_n C dX7_tasksOn_37 rfl (qv_iret C hret dX7_tasksOn_38)))
  (fun _ => (qv_aload_n C dX7_tasksOn_19 rfl (qv_iload_n C dX7_tasksOn_20 rfl (qv_iload_n C dX7_tasksOn_21 rfl (qv_callV C (rest := []) (cb := 0) (sb := 0) (t_X7_isWorkedOn hl v3 v1 s0) mw_X7_isWorkedOn lk_X7_217 in_X7_isWorkedOn se_X7_isWorkedOn rfl (by decide) (by decide) rfl rfl (Nat.le_of_ble_eq_true rfl) (by decide) dX7_tasksOn_22 rfl (qkI (fun r1 s2 => (qv_if_eq C (tgt := 31) dX7_tasksOn_25 (by decide) (fun _ => (qv_iinc C (v := (v3 + (1 : Int32))) dX7_tasksOn_31 rfl rfl (by decide) rfl (qv_goto C (tgt := 8) dX7_tasksOn_34 (by decide) (qV.weak [true, true, true, true] (hrk8 v1 v2 (v3 + (1 : Int32)) s2)))))
  (fun _ => (qv_iinc C (v := (v2 + (1 : Int32))) dX7_tasksOn_28 rfl rfl (by decide) rfl (qv_iinc C (v := (v3 + (1 : Int32))) dX7_tasksOn_31 rfl rfl (by decide) rfl (qv_goto C (tgt := 8) dX7_tasksOn_34 (by decide) (qV.weak [true, true, true, true] (hrk8 v1 (v2 + (1 : Int32)) (v3 + (1 : Int32)) s2)))))))))))))))))))
theorem lt_X7_tasksOn_8 {p : Program} {l : Launch} {e : Env} {s : State} {m : MethodId} {args : Array Value} {below : List Frame} {meth : Method} {c : Code} {g : qG} (hl : l.stackTraces = false) (C : qC p l s m meth c cX7_tasksOn 4 RX7 g) (hret : meth.sig.returnType = (some .int)) (ht : ∀ x ∈ c.exceptionTable.toList, False)  : ∀ (n : Nat) (v1 : Int32) (v2 : Int32) (v3 : Int32) (s0 : qS), qV p l e (qrm 25 1 6) s m args below meth c g 4 (qQf g below args s (qrm 25 1 6)) (l_X7_tasksOn_8  n v1 v2 v3 s0) 0 0 8 [some (qR 0 0), some (qI v1), some (qI v2), some (qI v3)] [] s0
  | 0, _, _, _, _ => qV.no
  | n + 1, v1, v2, v3, s0 => bt_X7_tasksOn_8 hl C hret ht  _ (lt_X7_tasksOn_8 hl C hret ht  n) v1 v2 v3 s0
def f_X7_tasksOn (a1 : Int32) (s0 : qS) : Option qO :=
  qbind (f_X7_requireDay a1 s0) (qvV (fun s1 =>
  l_X7_tasksOn_8  qFU a1 (0 : Int32) (0 : Int32) s1)) qE1
set_option maxRecDepth 100000 in
set_option maxHeartbeats 4000000 in
theorem t_X7_tasksOn {g : qG} {l : Launch} (hl : l.stackTraces = false) (a1 : Int32) (s0 : qS) : qM g l 25 1 6 (.code yX7_tasksOn cX7_tasksOn 4 (some .int)) yX7_tasksOn [qR 0 0, qI a1] s0 (f_X7_tasksOn a1 s0) := by
  refine qM_of (by decide +kernel) hl (List.forall_mem_cons.mpr ⟨rfl, (List.forall_mem_cons.mpr ⟨rfl, (fun _ h => absurd h List.not_mem_nil)⟩)⟩) (Nat.le_of_ble_eq_true rfl) ?_
  intro p e s m args below meth c C hret ht
  show qV p l e _ s m args below meth c g _ _ _ _ _ 0 [some (qR 0 0), some (qI a1), none, none] [] s0
  exact (qv_iload_n C dX7_tasksOn_0 rfl (qt_callS C (rest := []) (cb := 0) (sb := 0) (t_X7_requireDay hl a1 s0) mw_X7_requireDay lk_X7_210 st_X7_requireDay rfl (Nat.le_of_ble_eq_true rfl) (by decide) dX7_tasksOn_1 rfl ht (qkV (fun s1 => (qv_iconst C (v := (0 : Int32)) dX7_tasksOn_4 (by decide) (qv_istore_n C dX7_tasksOn_5 (by decide) rfl (qv_iconst C (v := (0 : Int32)) dX7_tasksOn_6 (by decide) (qv_istore_n C dX7_tasksOn_7 (by decide) rfl (qV.weak [true, true, true, true] (lt_X7_tasksOn_8 hl C hret ht  qFU a1 (0 : Int32) (0 : Int32) s1))))))))))
def f_X7_workload (a1 : Int32) (s0 : qS) : Option qO :=
  qbind (f_X7_requireResource a1 s0) (qvV (fun s1 =>
  qbind (f_X5_workOf 0 a1 s1) (qvI (fun r1 s2 =>
  (some (.inl (some (qI r1)), s2)))) qE0)) qE1
set_option maxRecDepth 100000 in
set_option maxHeartbeats 4000000 in
theorem t_X7_workload {g : qG} {l : Launch} (hl : l.stackTraces = false) (a1 : Int32) (s0 : qS) : qM g l 3 1 6 (.code yX7_workload cX7_workload 2 (some .int)) yX7_workload [qR 0 0, qI a1] s0 (f_X7_workload a1 s0) := by
  refine qM_of (by decide +kernel) hl (List.forall_mem_cons.mpr ⟨rfl, (List.forall_mem_cons.mpr ⟨rfl, (fun _ h => absurd h List.not_mem_nil)⟩)⟩) (Nat.le_of_ble_eq_true rfl) ?_
  intro p e s m args below meth c C hret ht
  show qV p l e _ s m args below meth c g _ _ _ _ _ 0 [some (qR 0 0), some (qI a1)] [] s0
  exact (qv_iload_n C dX7_workload_0 rfl (qt_callS C (rest := []) (cb := 0) (sb := 0) (t_X7_requireResource hl a1 s0) mw_X7_requireResource lk_X7_158 st_X7_requireResource rfl (Nat.le_of_ble_eq_true rfl) (by decide) dX7_workload_1 rfl ht (qkV (fun s1 => (qv_aload_n C dX7_workload_4 rfl (qv_getR C (j2 := 0) fl_X7_12 cl_X7 rfl (by decide) (by decide) (by decide) rfl rfl dX7_workload_5 (qv_iload_n C dX7_workload_8 rfl (qv_callVN C (rest := []) (cb := 0) (sb := 0) (t_X5_workOf hl (show 0 < 11 from (by decide)) a1 s1) mw_X5_workOf lk_X7_225 in_X5_workOf se_X5_workOf rfl (by decide) (by decide) rfl rfl (Nat.le_of_ble_eq_true rfl) (by decide) dX7_workload_9 rfl (qkI (fun r1 s2 => (qv_iret C hret dX7_workload_12)))))))))))
def f_X7_workloadByDays (a1 : Int32) (s0 : qS) : Option qO :=
  qbind (f_X7_requireResource a1 s0) (qvV (fun s1 =>
  qbind (f_X7_currentPlan  s1) (qvS 11 (fun s2 =>
  qbind (f_X4_workOnAllDays a1 s2) (qvI (fun r1 s3 =>
  (some (.inl (some (qI r1)), s3)))) qE0)) qE0)) qE1
set_option maxRecDepth 100000 in
set_option maxHeartbeats 4000000 in
theorem t_X7_workloadByDays {g : qG} {l : Launch} (hl : l.stackTraces = false) (a1 : Int32) (s0 : qS) : qM g l 24 1 6 (.code yX7_workloadByDays cX7_workloadByDays 2 (some .int)) yX7_workloadByDays [qR 0 0, qI a1] s0 (f_X7_workloadByDays a1 s0) := by
  refine qM_of (by decide +kernel) hl (List.forall_mem_cons.mpr ⟨rfl, (List.forall_mem_cons.mpr ⟨rfl, (fun _ h => absurd h List.not_mem_nil)⟩)⟩) (Nat.le_of_ble_eq_true rfl) ?_
  intro p e s m args below meth c C hret ht
  show qV p l e _ s m args below meth c g _ _ _ _ _ 0 [some (qR 0 0), some (qI a1)] [] s0
  exact (qv_iload_n C dX7_workloadByDays_0 rfl (qt_callS C (rest := []) (cb := 0) (sb := 0) (t_X7_requireResource hl a1 s0) mw_X7_requireResource lk_X7_158 st_X7_requireResource rfl (Nat.le_of_ble_eq_true rfl) (by decide) dX7_workloadByDays_1 rfl ht (qkV (fun s1 => (qv_aload_n C dX7_workloadByDays_4 rfl (qv_callV C (rest := []) (cb := 0) (sb := 0) (t_X7_currentPlan hl  s1) mw_X7_currentPlan lk_X7_135 in_X7_currentPlan se_X7_currentPlan rfl (by decide) (by decide) rfl rfl (Nat.le_of_ble_eq_true rfl) (by decide) dX7_workloadByDays_5 rfl (qkOne (fun s2 => (qv_iload_n C dX7_workloadByDays_8 rfl (qv_callVN C (rest := []) (cb := 0) (sb := 0) (t_X4_workOnAllDays hl a1 s2) mw_X4_workOnAllDays lk_X7_228 in_X4_workOnAllDays se_X4_workOnAllDays rfl (by decide) (by decide) rfl rfl (Nat.le_of_ble_eq_true rfl) (by decide) dX7_workloadByDays_9 rfl (qkI (fun r1 s3 => (qv_iret C hret dX7_workloadByDays_12)))))))))))))
def b_X7_totalDrift_24 (rk24 : Int32 → Int32 → qS → Option qO) (v1 : Int32) (v2 : Int32) (s0 : qS) : Option qO :=
  (if (s0 1 0 7) ≤ v2 then (some (.inl (some (qI v1)), s0)) else
  qbind (f_X5_hasStart 0 v2 s0) (qvI (fun r1 s1 =>
  (if r1 = 0 then rk24 v1 (v2 + (1 : Int32)) s1 else
  qbind (f_X7_driftOf v2 s1) (qvI (fun r2 s2 =>
  rk24 (v1 + (qabs r2)) (v2 + (1 : Int32)) s2)) qE0))) qE0)
def l_X7_totalDrift_24 : Nat → Int32 → Int32 → qS → Option qO
  | 0, _, _, _ => none
  | n + 1, v1, v2, s0 => b_X7_totalDrift_24  (l_X7_totalDrift_24  n) v1 v2 s0
set_option maxRecDepth 100000 in
set_option maxHeartbeats 4000000 in
theorem bt_X7_totalDrift_24 {p : Program} {l : Launch} {e : Env} {s : State} {m : MethodId} {args : Array Value} {below : List Frame} {meth : Method} {c : Code} {g : qG} (hl : l.stackTraces = false) (C : qC p l s m meth c cX7_totalDrift 3 RX7 g) (hret : meth.sig.returnType = (some .int)) (ht : ∀ x ∈ c.exceptionTable.toList, False)  (rk24 : Int32 → Int32 → qS → Option qO) (hrk24 : ∀ (v1 : Int32) (v2 : Int32) (s0 : qS), qV p l e (qrm 25 1 6) s m args below meth c g 3 (qQf g below args s (qrm 25 1 6)) (rk24 v1 v2 s0) 0 0 24 [some (qR 0 0), some (qI v1), some (qI v2)] [] s0) (v1 : Int32) (v2 : Int32) (s0 : qS) : qV p l e (qrm 25 1 6) s m args below meth c g 3 (qQf g below args s (qrm 25 1 6)) (b_X7_totalDrift_24  rk24 v1 v2 s0) 0 0 24 [some (qR 0 0), some (qI v1), some (qI v2)] [] s0 :=
  (qv_iload_n C dX7_totalDrift_24 rfl (qv_aload_n C dX7_totalDrift_25 rfl (qv_getR C (j2 := 0) fl_X7_12 cl_X7 rfl (by decide) (by decide) (by decide) rfl rfl dX7_totalDrift_26 (qv_getI C fl_X7_88 cl_X5 rfl (by decide) (by decide) (by decide) rfl dX7_totalDrift_29 (qv_icmp_ge C (tgt := 63) dX7_totalDrift_32 (by decide) (fun _ => (qv_iload_n C dX7_totalDrift_63 rfl (qv_iret C hret dX7_totalDrift_64)))
  (fun _ => (qv_aload_n C dX7_totalDrift_35 rfl (qv_getR C (j2 := 0) fl_X7_12 cl_X7 rfl (by decide) (by decide) (by decide) rfl rfl dX7_totalDrift_36 (qv_iload_n C dX7_totalDrift_39 rfl (qv_callVN C (rest := []) (cb := 0) (sb := 0) (t_X5_hasStart hl (show 0 < 11 from (by decide)) v2 s0) mw_X5_hasStart lk_X7_246 in_X5_hasStart se_X5_hasStart rfl (by decide) (by decide) rfl rfl (Nat.le_of_ble_eq_true rfl) (by decide) dX7_totalDrift_40 rfl (qkI (fun r1 s1 => (qv_if_eq C (tgt := 57) dX7_totalDrift_43 (by decide) (fun _ => (qv_iinc C (v := (v2 + (1 : Int32))) dX7_totalDrift_57 rfl rfl (by decide) rfl (qv_goto C (tgt := 24) dX7_totalDrift_60 (by decide) (qV.weak [true, true, true] (hrk24 v1 (v2 + (1 : Int32)) s1)))))
  (fun _ => (qv_iload_n C dX7_totalDrift_46 rfl (qv_aload_n C dX7_totalDrift_47 rfl (qv_iload_n C dX7_totalDrift_48 rfl (qv_callV C (rest := [qI v1]) (cb := 0) (sb := 0) (t_X7_driftOf hl v2 s1) mw_X7_driftOf lk_X7_241 in_X7_driftOf se_X7_driftOf rfl (by decide) (by decide) rfl rfl (Nat.le_of_ble_eq_true rfl) (by decide) dX7_totalDrift_49 rfl (qkI (fun r2 s2 => (qv_mabs C lk_X7_250 mm_abs (Nat.le_of_ble_eq_true rfl) (by decide) dX7_totalDrift_52 (qv_iadd C dX7_totalDrift_55 (qv_istore_n C dX7_totalDrift_56 (by decide) rfl (qv_iinc C (v := (v2 + (1 : Int32))) dX7_totalDrift_57 rfl rfl (by decide) rfl (qv_goto C (tgt := 24) dX7_totalDrift_60 (by decide) (qV.weak [true, true, true] (hrk24 (v1 + (qabs r2)) (v2 + (1 : Int32)) s2)))))))))))))))))))))))))))
theorem lt_X7_totalDrift_24 {p : Program} {l : Launch} {e : Env} {s : State} {m : MethodId} {args : Array Value} {below : List Frame} {meth : Method} {c : Code} {g : qG} (hl : l.stackTraces = false) (C : qC p l s m meth c cX7_totalDrift 3 RX7 g) (hret : meth.sig.returnType = (some .int)) (ht : ∀ x ∈ c.exceptionTable.toList, False)  : ∀ (n : Nat) (v1 : Int32) (v2 : Int32) (s0 : qS), qV p l e (qrm 25 1 6) s m args below meth c g 3 (qQf g below args s (qrm 25 1 6)) (l_X7_totalDrift_24  n v1 v2 s0) 0 0 24 [some (qR 0 0), some (qI v1), some (qI v2)] [] s0
  | 0, _, _, _ => qV.no
  | n + 1, v1, v2, s0 => bt_X7_totalDrift_24 hl C hret ht  _ (lt_X7_totalDrift_24 hl C hret ht  n) v1 v2 s0
def f_X7_totalDrift  (s0 : qS) : Option qO :=
  (if (s0 1 0 8) = 0 then (some (.inr qNSE, s0)) else
  l_X7_totalDrift_24  qFU (0 : Int32) (0 : Int32) s0)
set_option maxRecDepth 100000 in
set_option maxHeartbeats 4000000 in
theorem t_X7_totalDrift {g : qG} {l : Launch} (hl : l.stackTraces = false)  (s0 : qS) : qM g l 25 1 6 (.code yX7_totalDrift cX7_totalDrift 3 (some .int)) yX7_totalDrift [qR 0 0] s0 (f_X7_totalDrift  s0) := by
  refine qM_of (by decide +kernel) hl (List.forall_mem_cons.mpr ⟨rfl, (fun _ h => absurd h List.not_mem_nil)⟩) (Nat.le_of_ble_eq_true rfl) ?_
  intro p e s m args below meth c C hret ht
  show qV p l e _ s m args below meth c g _ _ _ _ _ 0 [some (qR 0 0), none, none] [] s0
  exact (qv_aload_n C dX7_totalDrift_0 rfl (qv_getR C (j2 := 0) fl_X7_12 cl_X7 rfl (by decide) (by decide) (by decide) rfl rfl dX7_totalDrift_1 (qv_getI C fl_X7_231 cl_X5 rfl (by decide) (by decide) (by decide) rfl dX7_totalDrift_4 (qv_if_ne C (tgt := 20) dX7_totalDrift_7 (by decide) (fun _ => (qv_throwXN C (text := "there is no baseline") (by decide) ht (Nat.le_of_ble_eq_true rfl) (by decide) dX7_totalDrift_10 dX7_totalDrift_13 dX7_totalDrift_14 dX7_totalDrift_16 dX7_totalDrift_19))
  (fun _ => (qV.less (cb' := 0) (sb' := 0) (qv_iconst C (v := (0 : Int32)) dX7_totalDrift_20 (by decide) (qv_istore_n C dX7_totalDrift_21 (by decide) rfl (qv_iconst C (v := (0 : Int32)) dX7_totalDrift_22 (by decide) (qv_istore_n C dX7_totalDrift_23 (by decide) rfl (qV.weak [true, true, true] (lt_X7_totalDrift_24 hl C hret ht  qFU (0 : Int32) (0 : Int32) s0)))))) (by decide) (by decide)))))))
def b_X7_meanSlack_32 (rk32 : Int32 → Int32 → Int32 → qS → Option qO) (v1 : Int32) (v3 : Int32) (v4 : Int32) (s0 : qS) : Option qO :=
  (if v1 ≤ v4 then (if qn64 (FP.ddiv (FP.i2d v3) (FP.i2d v1)) then (some (.inl (some (.inl (.double (FP.ddiv (FP.i2d v3) (FP.i2d v1))))), s0)) else none) else
  qbind (f_X4_slackOf v4 s0) (qvI (fun r1 s2 =>
  rk32 v1 (v3 + r1) (v4 + (1 : Int32)) s2)) qE0)
def l_X7_meanSlack_32 : Nat → Int32 → Int32 → Int32 → qS → Option qO
  | 0, _, _, _, _ => none
  | n + 1, v1, v3, v4, s0 => b_X7_meanSlack_32  (l_X7_meanSlack_32  n) v1 v3 v4 s0
set_option maxRecDepth 100000 in
set_option maxHeartbeats 4000000 in
theorem bt_X7_meanSlack_32 {p : Program} {l : Launch} {e : Env} {s : State} {m : MethodId} {args : Array Value} {below : List Frame} {meth : Method} {c : Code} {g : qG} (hl : l.stackTraces = false) (C : qC p l s m meth c cX7_meanSlack 5 RX7 g) (hret : meth.sig.returnType = (some .double)) (ht : ∀ x ∈ c.exceptionTable.toList, False)  (rk32 : Int32 → Int32 → Int32 → qS → Option qO) (hrk32 : ∀ (v1 : Int32) (v3 : Int32) (v4 : Int32) (s0 : qS), qV p l e (qrm 24 1 6) s m args below meth c g 5 (qQf g below args s (qrm 24 1 6)) (rk32 v1 v3 v4 s0) 0 0 32 [none, some (qI v1), some (qR 11 0), some (qI v3), some (qI v4)] [] s0) (v1 : Int32) (v3 : Int32) (v4 : Int32) (s0 : qS) : qV p l e (qrm 24 1 6) s m args below meth c g 5 (qQf g below args s (qrm 24 1 6)) (b_X7_meanSlack_32  rk32 v1 v3 v4 s0) 0 0 32 [none, some (qI v1), some (qR 11 0), some (qI v3), some (qI v4)] [] s0 :=
  (qv_iload C dX7_meanSlack_32 rfl (qv_iload_n C dX7_meanSlack_34 rfl (qv_icmp_ge C (tgt := 53) dX7_meanSlack_35 (by decide) (fun _ => (qv_iload_n C dX7_meanSlack_53 rfl (qv_i2d C dX7_meanSlack_54 (qv_iload_n C dX7_meanSlack_55 rfl (qv_i2d C dX7_meanSlack_56 (qv_ddiv C dX7_meanSlack_57 (fun _ => (qv_dret C hret dX7_meanSlack_58))))))))
  (fun _ => (qv_iload_n C dX7_meanSlack_38 rfl (qv_aload_n C dX7_meanSlack_39 rfl (qv_iload C dX7_meanSlack_40 rfl (qv_callVN C (rest := [qI v3]) (cb := 0) (sb := 0) (t_X4_slackOf hl v4 s0) mw_X4_slackOf lk_X7_202 in_X4_slackOf se_X4_slackOf rfl (by decide) (by decide) rfl rfl (Nat.le_of_ble_eq_true rfl) (by decide) dX7_meanSlack_42 rfl (qkI (fun r1 s2 => (qv_iadd C dX7_meanSlack_45 (qv_istore_n C dX7_meanSlack_46 (by decide) rfl (qv_iinc C (v := (v4 + (1 : Int32))) dX7_meanSlack_47 rfl rfl (by decide) rfl (qv_goto C (tgt := 32) dX7_meanSlack_50 (by decide) (qV.weak [false, true, true, true, true] (hrk32 v1 (v3 + r1) (v4 + (1 : Int32)) s2))))))))))))))))
theorem lt_X7_meanSlack_32 {p : Program} {l : Launch} {e : Env} {s : State} {m : MethodId} {args : Array Value} {below : List Frame} {meth : Method} {c : Code} {g : qG} (hl : l.stackTraces = false) (C : qC p l s m meth c cX7_meanSlack 5 RX7 g) (hret : meth.sig.returnType = (some .double)) (ht : ∀ x ∈ c.exceptionTable.toList, False)  : ∀ (n : Nat) (v1 : Int32) (v3 : Int32) (v4 : Int32) (s0 : qS), qV p l e (qrm 24 1 6) s m args below meth c g 5 (qQf g below args s (qrm 24 1 6)) (l_X7_meanSlack_32  n v1 v3 v4 s0) 0 0 32 [none, some (qI v1), some (qR 11 0), some (qI v3), some (qI v4)] [] s0
  | 0, _, _, _, _ => qV.no
  | n + 1, v1, v3, v4, s0 => bt_X7_meanSlack_32 hl C hret ht  _ (lt_X7_meanSlack_32 hl C hret ht  n) v1 v3 v4 s0
def f_X7_meanSlack  (s0 : qS) : Option qO :=
  (if (s0 1 0 7) = 0 then (some (.inr qARE, s0)) else
  qbind (f_X7_currentPlan  s0) (qvS 11 (fun s1 =>
  l_X7_meanSlack_32  qFU (s0 1 0 7) (0 : Int32) (0 : Int32) s1)) qE0)
set_option maxRecDepth 100000 in
set_option maxHeartbeats 4000000 in
theorem t_X7_meanSlack {g : qG} {l : Launch} (hl : l.stackTraces = false)  (s0 : qS) : qM g l 24 1 6 (.code yX7_meanSlack cX7_meanSlack 5 (some .double)) yX7_meanSlack [qR 0 0] s0 (f_X7_meanSlack  s0) := by
  refine qM_of (by decide +kernel) hl (List.forall_mem_cons.mpr ⟨rfl, (fun _ h => absurd h List.not_mem_nil)⟩) (Nat.le_of_ble_eq_true rfl) ?_
  intro p e s m args below meth c C hret ht
  show qV p l e _ s m args below meth c g _ _ _ _ _ 0 [some (qR 0 0), none, none, none, none] [] s0
  exact (qv_aload_n C dX7_meanSlack_0 rfl (qv_getR C (j2 := 0) fl_X7_12 cl_X7 rfl (by decide) (by decide) (by decide) rfl rfl dX7_meanSlack_1 (qv_getI C fl_X7_88 cl_X5 rfl (by decide) (by decide) (by decide) rfl dX7_meanSlack_4 (qv_istore_n C dX7_meanSlack_7 (by decide) rfl (qv_iload_n C dX7_meanSlack_8 rfl (qv_if_ne C (tgt := 22) dX7_meanSlack_9 (by decide) (fun _ => (qv_throwN C (text := "there are no tasks") thr_259_261 (by decide) ht (Nat.le_of_ble_eq_true rfl) (by decide) dX7_meanSlack_12 dX7_meanSlack_15 dX7_meanSlack_16 dX7_meanSlack_18 dX7_meanSlack_21))
  (fun _ => (qV.less (cb' := 0) (sb' := 0) (qv_aload_n C dX7_meanSlack_22 rfl (qv_callV C (rest := []) (cb := 0) (sb := 0) (t_X7_currentPlan hl  s0) mw_X7_currentPlan lk_X7_135 in_X7_currentPlan se_X7_currentPlan rfl (by decide) (by decide) rfl rfl (Nat.le_of_ble_eq_true rfl) (by decide) dX7_meanSlack_23 rfl (qkOne (fun s1 => (qv_astore_n C dX7_meanSlack_26 (by decide) rfl (qv_iconst C (v := (0 : Int32)) dX7_meanSlack_27 (by decide) (qv_istore_n C dX7_meanSlack_28 (by decide) rfl (qv_iconst C (v := (0 : Int32)) dX7_meanSlack_29 (by decide) (qv_istore C dX7_meanSlack_30 (by decide) rfl (qV.weak [false, true, true, true, true] (lt_X7_meanSlack_32 hl C hret ht  qFU (s0 1 0 7) (0 : Int32) (0 : Int32) s1))))))))))) (by decide) (by decide)))))))))
def f_X7_utilization (a1 : Int32) (s0 : qS) : Option qO :=
  qbind (f_X7_requireResource a1 s0) (qvV (fun s1 =>
  qbind (f_X7_at 8 0 a1 s1) (qvI (fun r1 s2 =>
  qbind (f_X7_currentPlan  s2) (qvS 11 (fun s3 =>
  (if (r1 * (s3 11 0 8)) = 0 then (some (.inr qARE, s3)) else
  qbind (f_X5_workOf 0 a1 s3) (qvI (fun r2 s4 =>
  (if qn32 (FP.fdiv (FP.i2f r2) (FP.i2f (r1 * (s3 11 0 8)))) then (some (.inl (some (.inl (.float (FP.fdiv (FP.i2f r2) (FP.i2f (r1 * (s3 11 0 8))))))), s4)) else none))) qE0))) qE0)) qE0)) qE1
set_option maxRecDepth 100000 in
set_option maxHeartbeats 4000000 in
theorem t_X7_utilization {g : qG} {l : Launch} (hl : l.stackTraces = false) (a1 : Int32) (s0 : qS) : qM g l 24 2 12 (.code yX7_utilization cX7_utilization 3 (some .float)) yX7_utilization [qR 0 0, qI a1] s0 (f_X7_utilization a1 s0) := by
  refine qM_of (by decide +kernel) hl (List.forall_mem_cons.mpr ⟨rfl, (List.forall_mem_cons.mpr ⟨rfl, (fun _ h => absurd h List.not_mem_nil)⟩)⟩) (Nat.le_of_ble_eq_true rfl) ?_
  intro p e s m args below meth c C hret ht
  show qV p l e _ s m args below meth c g _ _ _ _ _ 0 [some (qR 0 0), some (qI a1), none] [] s0
  exact (qv_iload_n C dX7_utilization_0 rfl (qt_callS C (rest := []) (cb := 1) (sb := 6) (t_X7_requireResource hl a1 s0) mw_X7_requireResource lk_X7_158 st_X7_requireResource rfl (Nat.le_of_ble_eq_true rfl) (by decide) dX7_utilization_1 rfl ht (qkV (fun s1 => (qv_aload_n C dX7_utilization_4 rfl (qv_getR C (j2 := 0) fl_X7_12 cl_X7 rfl (by decide) (by decide) (by decide) rfl rfl dX7_utilization_5 (qv_getR C (j2 := 0) fl_X7_132 cl_X5 rfl (by decide) (by decide) (by decide) rfl rfl dX7_utilization_8 (qv_iload_n C dX7_utilization_11 rfl (qv_callS C (rest := []) (cb := 1) (sb := 6) (t_X7_at hl rfl (by decide) (by decide) a1 s1) mw_X7_at lk_X7_115 st_X7_at rfl (Nat.le_of_ble_eq_true rfl) (by decide) dX7_utilization_12 rfl (qkI (fun r1 s2 => (qv_aload_n C dX7_utilization_15 rfl (qv_callV C (rest := [qI r1]) (cb := 1) (sb := 6) (t_X7_currentPlan hl  s2) mw_X7_currentPlan lk_X7_135 in_X7_currentPlan se_X7_currentPlan rfl (by decide) (by decide) rfl rfl (Nat.le_of_ble_eq_true rfl) (by decide) dX7_utilization_16 rfl (qkOne (fun s3 => (qv_getI C fl_X7_146 cl_X4 rfl (by decide) (by decide) (by decide) rfl dX7_utilization_19 (qv_imul C dX7_utilization_22 (qv_istore_n C dX7_utilization_23 (by decide) rfl (qv_iload_n C dX7_utilization_24 rfl (qv_if_ne C (tgt := 38) dX7_utilization_25 (by decide) (fun _ => (qv_throwN C (text := "there are no tasks") thr_259_261 (by decide) ht (Nat.le_of_ble_eq_true rfl) (by decide) dX7_utilization_28 dX7_utilization_31 dX7_utilization_32 dX7_utilization_34 dX7_utilization_37))
  (fun _ => (qV.less (cb' := 0) (sb' := 0) (qv_aload_n C dX7_utilization_38 rfl (qv_getR C (j2 := 0) fl_X7_12 cl_X7 rfl (by decide) (by decide) (by decide) rfl rfl dX7_utilization_39 (qv_iload_n C dX7_utilization_42 rfl (qv_callVN C (rest := []) (cb := 0) (sb := 0) (t_X5_workOf hl (show 0 < 11 from (by decide)) a1 s3) mw_X5_workOf lk_X7_225 in_X5_workOf se_X5_workOf rfl (by decide) (by decide) rfl rfl (Nat.le_of_ble_eq_true rfl) (by decide) dX7_utilization_43 rfl (qkI (fun r2 s4 => (qv_i2f C dX7_utilization_46 (qv_iload_n C dX7_utilization_47 rfl (qv_i2f C dX7_utilization_48 (qv_fdiv C dX7_utilization_49 (fun _ => (qv_fret C hret dX7_utilization_50)))))))))))) (by decide) (by decide)))))))))))))))))))))))
def f_X7_isConsistent  (s0 : qS) : Option qO :=
  qbind (f_X7_startsAgree  s0) (qvI (fun r1 s1 =>
  (if r1 = 0 then (some (.inl (some (qI (0 : Int32))), s1)) else
  qbind (f_X7_dependenciesAgree  s1) (qvI (fun r2 s2 =>
  (if r2 = 0 then (some (.inl (some (qI (0 : Int32))), s2)) else
  qbind (f_X7_workloadsAgree  s2) (qvI (fun r3 s3 =>
  (if r3 = 0 then (some (.inl (some (qI (0 : Int32))), s3)) else
  (some (.inl (some (qI (1 : Int32))), s3))))) qE0))) qE0))) qE0
set_option maxRecDepth 100000 in
set_option maxHeartbeats 4000000 in
theorem t_X7_isConsistent {g : qG} {l : Launch} (hl : l.stackTraces = false)  (s0 : qS) : qM g l 25 0 0 (.code yX7_isConsistent cX7_isConsistent 1 (some .boolean)) yX7_isConsistent [qR 0 0] s0 (f_X7_isConsistent  s0) := by
  refine qM_of (by decide +kernel) hl (List.forall_mem_cons.mpr ⟨rfl, (fun _ h => absurd h List.not_mem_nil)⟩) (Nat.le_of_ble_eq_true rfl) ?_
  intro p e s m args below meth c C hret ht
  show qV p l e _ s m args below meth c g _ _ _ _ _ 0 [some (qR 0 0)] [] s0
  exact (qv_aload_n C dX7_isConsistent_0 rfl (qv_callV C (rest := []) (cb := 0) (sb := 0) (t_X7_startsAgree hl  s0) mw_X7_startsAgree lk_X7_262 in_X7_startsAgree se_X7_startsAgree rfl (by decide) (by decide) rfl rfl (Nat.le_of_ble_eq_true rfl) (by decide) dX7_isConsistent_1 rfl (qkI (fun r1 s1 => (qv_if_eq C (tgt := 25) dX7_isConsistent_4 (by decide) (fun _ => (qv_iconst C (v := (0 : Int32)) dX7_isConsistent_25 (by decide) (qv_zret! C hret (qbo_nar (by decide)) dX7_isConsistent_26)))
  (fun _ => (qv_aload_n C dX7_isConsistent_7 rfl (qv_callV C (rest := []) (cb := 0) (sb := 0) (t_X7_dependenciesAgree hl  s1) mw_X7_dependenciesAgree lk_X7_266 in_X7_dependenciesAgree se_X7_dependenciesAgree rfl (by decide) (by decide) rfl rfl (Nat.le_of_ble_eq_true rfl) (by decide) dX7_isConsistent_8 rfl (qkI (fun r2 s2 => (qv_if_eq C (tgt := 25) dX7_isConsistent_11 (by decide) (fun _ => (qv_iconst C (v := (0 : Int32)) dX7_isConsistent_25 (by decide) (qv_zret! C hret (qbo_nar (by decide)) dX7_isConsistent_26)))
  (fun _ => (qv_aload_n C dX7_isConsistent_14 rfl (qv_callV C (rest := []) (cb := 0) (sb := 0) (t_X7_workloadsAgree hl  s2) mw_X7_workloadsAgree lk_X7_269 in_X7_workloadsAgree se_X7_workloadsAgree rfl (by decide) (by decide) rfl rfl (Nat.le_of_ble_eq_true rfl) (by decide) dX7_isConsistent_15 rfl (qkI (fun r3 s3 => (qv_if_eq C (tgt := 25) dX7_isConsistent_18 (by decide) (fun _ => (qv_iconst C (v := (0 : Int32)) dX7_isConsistent_25 (by decide) (qv_zret! C hret (qbo_nar (by decide)) dX7_isConsistent_26)))
  (fun _ => (qv_iconst C (v := (1 : Int32)) dX7_isConsistent_21 (by decide) (qv_goto C (tgt := 26) dX7_isConsistent_22 (by decide) (qv_zret! C hret (qbo_nar (by decide)) dX7_isConsistent_26)))))))))))))))))))))
def b_X7_renderUsage_18 (rk18 : Int32 → Int32 → qS → Option qO) (v1 : Int32) (v3 : Int32) (s0 : qS) : Option qO :=
  (if (s0 11 0 8) ≤ v3 then (some (.inl (some (qI (s0 23 0 1))), s0)) else
  (if v3 ≤ 0 then qbind (f_X4_usedOn v1 v3 s0) (qvI (fun r1 s4 =>
  qbind (f_X3_writeNumber r1 s4) (qvV (fun s5 =>
  rk18 v1 (v3 + (1 : Int32)) s5)) qE0)) qE0 else
  qbind (f_X3_write (44 : Int32) s0) (qvV (fun s6 =>
  qbind (f_X4_usedOn v1 v3 s6) (qvI (fun r2 s7 =>
  qbind (f_X3_writeNumber r2 s7) (qvV (fun s8 =>
  rk18 v1 (v3 + (1 : Int32)) s8)) qE0)) qE0)) qE0))
def l_X7_renderUsage_18 : Nat → Int32 → Int32 → qS → Option qO
  | 0, _, _, _ => none
  | n + 1, v1, v3, s0 => b_X7_renderUsage_18  (l_X7_renderUsage_18  n) v1 v3 s0
set_option maxRecDepth 100000 in
set_option maxHeartbeats 4000000 in
theorem bt_X7_renderUsage_18 {p : Program} {l : Launch} {e : Env} {s : State} {m : MethodId} {args : Array Value} {below : List Frame} {meth : Method} {c : Code} {g : qG} (hl : l.stackTraces = false) (C : qC p l s m meth c cX7_renderUsage 4 RX7 g) (hret : meth.sig.returnType = (some .int)) (ht : ∀ x ∈ c.exceptionTable.toList, False)  (rk18 : Int32 → Int32 → qS → Option qO) (hrk18 : ∀ (v1 : Int32) (v3 : Int32) (s0 : qS), qV p l e (qrm 24 1 6) s m args below meth c g 4 (qQf g below args s (qrm 24 1 6)) (rk18 v1 v3 s0) 0 0 18 [some (qR 0 0), some (qI v1), some (qR 11 0), some (qI v3)] [] s0) (v1 : Int32) (v3 : Int32) (s0 : qS) : qV p l e (qrm 24 1 6) s m args below meth c g 4 (qQf g below args s (qrm 24 1 6)) (b_X7_renderUsage_18  rk18 v1 v3 s0) 0 0 18 [some (qR 0 0), some (qI v1), some (qR 11 0), some (qI v3)] [] s0 :=
  (qv_iload_n C dX7_renderUsage_18 rfl (qv_aload_n C dX7_renderUsage_19 rfl (qv_getI C fl_X7_146 cl_X4 rfl (by decide) (by decide) (by decide) rfl dX7_renderUsage_20 (qv_icmp_ge C (tgt := 58) dX7_renderUsage_23 (by decide) (fun _ => (qv_aload_n C dX7_renderUsage_58 rfl (qv_getR C (j2 := 0) fl_X7_46 cl_X7 rfl (by decide) (by decide) (by decide) rfl rfl dX7_renderUsage_59 (qv_getI C fl_X7_281 cl_X3 rfl (by decide) (by decide) (by decide) rfl dX7_renderUsage_62 (qv_iret C hret dX7_renderUsage_65)))))
  (fun _ => (qv_iload_n C dX7_renderUsage_26 rfl (qv_if_le C (tgt := 39) dX7_renderUsage_27 (by decide) (fun _ => (qv_aload_n C dX7_renderUsage_39 rfl (qv_getR C (j2 := 0) fl_X7_46 cl_X7 rfl (by decide) (by decide) (by decide) rfl rfl dX7_renderUsage_40 (qv_aload_n C dX7_renderUsage_43 rfl (qv_iload_n C dX7_renderUsage_44 rfl (qv_iload_n C dX7_renderUsage_45 rfl (qv_callVN C (rest := [qR 23 0]) (cb := 0) (sb := 0) (t_X4_usedOn hl v1 v3 s0) mw_X4_usedOn lk_X7_213 in_X4_usedOn se_X4_usedOn rfl (by decide) (by decide) rfl rfl (Nat.le_of_ble_eq_true rfl) (by decide) dX7_renderUsage_46 rfl (qkI (fun r1 s4 => (qv_callVN C (rest := []) (cb := 0) (sb := 0) (t_X3_writeNumber hl r1 s4) mw_X3_writeNumber lk_X7_275 in_X3_writeNumber se_X3_writeNumber rfl (by decide) (by decide) rfl rfl (Nat.le_of_ble_eq_true rfl) (by decide) dX7_renderUsage_49 rfl (qkV (fun s5 => (qv_iinc C (v := (v3 + (1 : Int32))) dX7_renderUsage_52 rfl rfl (by decide) rfl (qv_goto C (tgt := 18) dX7_renderUsage_55 (by decide) (qV.weak [true, true, true, true] (hrk18 v1 (v3 + (1 : Int32)) s5))))))))))))))))
  (fun _ => (qv_aload_n C dX7_renderUsage_30 rfl (qv_getR C (j2 := 0) fl_X7_46 cl_X7 rfl (by decide) (by decide) (by decide) rfl rfl dX7_renderUsage_31 (qv_bipush C (v := (44 : Int32)) dX7_renderUsage_34 (by decide) (qv_callVN C (rest := []) (cb := 0) (sb := 0) (t_X3_write hl (44 : Int32) s0) mw_X3_write lk_X7_278 in_X3_write se_X3_write rfl (by decide) (by decide) rfl rfl (Nat.le_of_ble_eq_true rfl) (by decide) dX7_renderUsage_36 rfl (qkV (fun s6 => (qv_aload_n C dX7_renderUsage_39 rfl (qv_getR C (j2 := 0) fl_X7_46 cl_X7 rfl (by decide) (by decide) (by decide) rfl rfl dX7_renderUsage_40 (qv_aload_n C dX7_renderUsage_43 rfl (qv_iload_n C dX7_renderUsage_44 rfl (qv_iload_n C dX7_renderUsage_45 rfl (qv_callVN C (rest := [qR 23 0]) (cb := 0) (sb := 0) (t_X4_usedOn hl v1 v3 s6) mw_X4_usedOn lk_X7_213 in_X4_usedOn se_X4_usedOn rfl (by decide) (by decide) rfl rfl (Nat.le_of_ble_eq_true rfl) (by decide) dX7_renderUsage_46 rfl (qkI (fun r2 s7 => (qv_callVN C (rest := []) (cb := 0) (sb := 0) (t_X3_writeNumber hl r2 s7) mw_X3_writeNumber lk_X7_275 in_X3_writeNumber se_X3_writeNumber rfl (by decide) (by decide) rfl rfl (Nat.le_of_ble_eq_true rfl) (by decide) dX7_renderUsage_49 rfl (qkV (fun s8 => (qv_iinc C (v := (v3 + (1 : Int32))) dX7_renderUsage_52 rfl rfl (by decide) rfl (qv_goto C (tgt := 18) dX7_renderUsage_55 (by decide) (qV.weak [true, true, true, true] (hrk18 v1 (v3 + (1 : Int32)) s8)))))))))))))))))))))))))))))
theorem lt_X7_renderUsage_18 {p : Program} {l : Launch} {e : Env} {s : State} {m : MethodId} {args : Array Value} {below : List Frame} {meth : Method} {c : Code} {g : qG} (hl : l.stackTraces = false) (C : qC p l s m meth c cX7_renderUsage 4 RX7 g) (hret : meth.sig.returnType = (some .int)) (ht : ∀ x ∈ c.exceptionTable.toList, False)  : ∀ (n : Nat) (v1 : Int32) (v3 : Int32) (s0 : qS), qV p l e (qrm 24 1 6) s m args below meth c g 4 (qQf g below args s (qrm 24 1 6)) (l_X7_renderUsage_18  n v1 v3 s0) 0 0 18 [some (qR 0 0), some (qI v1), some (qR 11 0), some (qI v3)] [] s0
  | 0, _, _, _ => qV.no
  | n + 1, v1, v3, s0 => bt_X7_renderUsage_18 hl C hret ht  _ (lt_X7_renderUsage_18 hl C hret ht  n) v1 v3 s0
def f_X7_renderUsage (a1 : Int32) (s0 : qS) : Option qO :=
  qbind (f_X7_requireResource a1 s0) (qvV (fun s1 =>
  qbind (f_X7_currentPlan  s1) (qvS 11 (fun s2 =>
  qbind (f_X3_clear  s2) (qvV (fun s3 =>
  l_X7_renderUsage_18  qFU a1 (0 : Int32) s3)) qE0)) qE0)) qE1
set_option maxRecDepth 100000 in
set_option maxHeartbeats 4000000 in
theorem t_X7_renderUsage {g : qG} {l : Launch} (hl : l.stackTraces = false) (a1 : Int32) (s0 : qS) : qM g l 24 1 6 (.code yX7_renderUsage cX7_renderUsage 4 (some .int)) yX7_renderUsage [qR 0 0, qI a1] s0 (f_X7_renderUsage a1 s0) := by
  refine qM_of (by decide +kernel) hl (List.forall_mem_cons.mpr ⟨rfl, (List.forall_mem_cons.mpr ⟨rfl, (fun _ h => absurd h List.not_mem_nil)⟩)⟩) (Nat.le_of_ble_eq_true rfl) ?_
  intro p e s m args below meth c C hret ht
  show qV p l e _ s m args below meth c g _ _ _ _ _ 0 [some (qR 0 0), some (qI a1), none, none] [] s0
  exact (qv_iload_n C dX7_renderUsage_0 rfl (qt_callS C (rest := []) (cb := 0) (sb := 0) (t_X7_requireResource hl a1 s0) mw_X7_requireResource lk_X7_158 st_X7_requireResource rfl (Nat.le_of_ble_eq_true rfl) (by decide) dX7_renderUsage_1 rfl ht (qkV (fun s1 => (qv_aload_n C dX7_renderUsage_4 rfl (qv_callV C (rest := []) (cb := 0) (sb := 0) (t_X7_currentPlan hl  s1) mw_X7_currentPlan lk_X7_135 in_X7_currentPlan se_X7_currentPlan rfl (by decide) (by decide) rfl rfl (Nat.le_of_ble_eq_true rfl) (by decide) dX7_renderUsage_5 rfl (qkOne (fun s2 => (qv_astore_n C dX7_renderUsage_8 (by decide) rfl (qv_aload_n C dX7_renderUsage_9 rfl (qv_getR C (j2 := 0) fl_X7_46 cl_X7 rfl (by decide) (by decide) (by decide) rfl rfl dX7_renderUsage_10 (qv_callVN C (rest := []) (cb := 0) (sb := 0) (t_X3_clear hl  s2) mw_X3_clear lk_X7_272 in_X3_clear se_X3_clear rfl (by decide) (by decide) rfl rfl (Nat.le_of_ble_eq_true rfl) (by decide) dX7_renderUsage_13 rfl (qkV (fun s3 => (qv_iconst C (v := (0 : Int32)) dX7_renderUsage_16 (by decide) (qv_istore_n C dX7_renderUsage_17 (by decide) rfl (qV.weak [true, true, true, true] (lt_X7_renderUsage_18 hl C hret ht  qFU a1 (0 : Int32) s3))))))))))))))))))
def b_X7_taskAtRank_2 (rk2 : Int32 → Int32 → qS → Option qO) (v1 : Int32) (v2 : Int32) (s0 : qS) : Option qO :=
  (if (s0 1 0 7) ≤ v2 then (some (.inr qNSE, s0)) else
  qbind (f_X7_countBefore v2 s0) (qvI (fun r1 s1 =>
  (if r1 = v1 then (some (.inl (some (qI v2)), s1)) else
  rk2 v1 (v2 + (1 : Int32)) s1))) qE0)
def l_X7_taskAtRank_2 : Nat → Int32 → Int32 → qS → Option qO
  | 0, _, _, _ => none
  | n + 1, v1, v2, s0 => b_X7_taskAtRank_2  (l_X7_taskAtRank_2  n) v1 v2 s0
set_option maxRecDepth 100000 in
set_option maxHeartbeats 4000000 in
theorem bt_X7_taskAtRank_2 {p : Program} {l : Launch} {e : Env} {s : State} {m : MethodId} {args : Array Value} {below : List Frame} {meth : Method} {c : Code} {g : qG} (hl : l.stackTraces = false) (C : qC p l s m meth c cX7_taskAtRank 3 RX7 g) (hret : meth.sig.returnType = (some .int)) (ht : ∀ x ∈ c.exceptionTable.toList, False)  (rk2 : Int32 → Int32 → qS → Option qO) (hrk2 : ∀ (v1 : Int32) (v2 : Int32) (s0 : qS), qV p l e (qrm 3 1 6) s m args below meth c g 3 (qQf g below args s (qrm 3 1 6)) (rk2 v1 v2 s0) 1 6 2 [some (qR 0 0), some (qI v1), some (qI v2)] [] s0) (v1 : Int32) (v2 : Int32) (s0 : qS) : qV p l e (qrm 3 1 6) s m args below meth c g 3 (qQf g below args s (qrm 3 1 6)) (b_X7_taskAtRank_2  rk2 v1 v2 s0) 1 6 2 [some (qR 0 0), some (qI v1), some (qI v2)] [] s0 :=
  (qv_iload_n C dX7_taskAtRank_2 rfl (qv_aload_n C dX7_taskAtRank_3 rfl (qv_getR C (j2 := 0) fl_X7_12 cl_X7 rfl (by decide) (by decide) (by decide) rfl rfl dX7_taskAtRank_4 (qv_getI C fl_X7_88 cl_X5 rfl (by decide) (by decide) (by decide) rfl dX7_taskAtRank_7 (qv_icmp_ge C (tgt := 30) dX7_taskAtRank_10 (by decide) (fun _ => (qv_throwXW C (text := "no such rank") (by decide) ht (Nat.le_of_ble_eq_true rfl) (by decide) dX7_taskAtRank_30 dX7_taskAtRank_33 dX7_taskAtRank_34 dX7_taskAtRank_37 dX7_taskAtRank_40))
  (fun _ => (qv_aload_n C dX7_taskAtRank_13 rfl (qv_iload_n C dX7_taskAtRank_14 rfl (qv_callV C (rest := []) (cb := 1) (sb := 6) (t_X7_countBefore hl v2 s0) mw_X7_countBefore lk_X7_385 in_X7_countBefore se_X7_countBefore rfl (by decide) (by decide) rfl rfl (Nat.le_of_ble_eq_true rfl) (by decide) dX7_taskAtRank_15 rfl (qkI (fun r1 s1 => (qv_iload_n C dX7_taskAtRank_18 rfl (qv_icmp_ne C (tgt := 24) dX7_taskAtRank_19 (by decide) (fun _ => (qV.less (cb' := 0) (sb' := 0) (qv_iload_n C dX7_taskAtRank_22 rfl (qv_iret C hret dX7_taskAtRank_23)) (by decide) (by decide)))
  (fun _ => (qv_iinc C (v := (v2 + (1 : Int32))) dX7_taskAtRank_24 rfl rfl (by decide) rfl (qv_goto C (tgt := 2) dX7_taskAtRank_27 (by decide) (qV.weak [true, true, true] (hrk2 v1 (v2 + (1 : Int32)) s1))))))))))))))))))
theorem lt_X7_taskAtRank_2 {p : Program} {l : Launch} {e : Env} {s : State} {m : MethodId} {args : Array Value} {below : List Frame} {meth : Method} {c : Code} {g : qG} (hl : l.stackTraces = false) (C : qC p l s m meth c cX7_taskAtRank 3 RX7 g) (hret : meth.sig.returnType = (some .int)) (ht : ∀ x ∈ c.exceptionTable.toList, False)  : ∀ (n : Nat) (v1 : Int32) (v2 : Int32) (s0 : qS), qV p l e (qrm 3 1 6) s m args below meth c g 3 (qQf g below args s (qrm 3 1 6)) (l_X7_taskAtRank_2  n v1 v2 s0) 1 6 2 [some (qR 0 0), some (qI v1), some (qI v2)] [] s0
  | 0, _, _, _ => qV.no
  | n + 1, v1, v2, s0 => bt_X7_taskAtRank_2 hl C hret ht  _ (lt_X7_taskAtRank_2 hl C hret ht  n) v1 v2 s0
def f_X7_taskAtRank (a1 : Int32) (s0 : qS) : Option qO :=
  l_X7_taskAtRank_2  qFU a1 (0 : Int32) s0
set_option maxRecDepth 100000 in
set_option maxHeartbeats 4000000 in
theorem t_X7_taskAtRank {g : qG} {l : Launch} (hl : l.stackTraces = false) (a1 : Int32) (s0 : qS) : qM g l 3 1 6 (.code yX7_taskAtRank cX7_taskAtRank 3 (some .int)) yX7_taskAtRank [qR 0 0, qI a1] s0 (f_X7_taskAtRank a1 s0) := by
  refine qM_of (by decide +kernel) hl (List.forall_mem_cons.mpr ⟨rfl, (List.forall_mem_cons.mpr ⟨rfl, (fun _ h => absurd h List.not_mem_nil)⟩)⟩) (Nat.le_of_ble_eq_true rfl) ?_
  intro p e s m args below meth c C hret ht
  show qV p l e _ s m args below meth c g _ _ _ _ _ 0 [some (qR 0 0), some (qI a1), none] [] s0
  exact (qv_iconst C (v := (0 : Int32)) dX7_taskAtRank_0 (by decide) (qv_istore_n C dX7_taskAtRank_1 (by decide) rfl (qV.weak [true, true, true] (lt_X7_taskAtRank_2 hl C hret ht  qFU a1 (0 : Int32) s0))))
def f_X7_requireTask (a1 : Int32) (s0 : qS) : Option qO :=
  qbind (f_X5_faultOfTask 0 a1 s0) (qvI (fun r1 s1 =>
  qbind (f_X7_refuse r1 s1) (qvV (fun s2 =>
  (some (.inl none, s2)))) qE1)) qE0
set_option maxRecDepth 100000 in
set_option maxHeartbeats 4000000 in
theorem t_X7_requireTask {g : qG} {l : Launch} (hl : l.stackTraces = false) (a1 : Int32) (s0 : qS) : qM g l 3 1 6 (.code yX7_requireTask cX7_requireTask 2 none) yX7_requireTask [qR 0 0, qI a1] s0 (f_X7_requireTask a1 s0) := by
  refine qM_of (by decide +kernel) hl (List.forall_mem_cons.mpr ⟨rfl, (List.forall_mem_cons.mpr ⟨rfl, (fun _ h => absurd h List.not_mem_nil)⟩)⟩) (Nat.le_of_ble_eq_true rfl) ?_
  intro p e s m args below meth c C hret ht
  show qV p l e _ s m args below meth c g _ _ _ _ _ 0 [some (qR 0 0), some (qI a1)] [] s0
  exact (qv_aload_n C dX7_requireTask_0 rfl (qv_getR C (j2 := 0) fl_X7_12 cl_X7 rfl (by decide) (by decide) (by decide) rfl rfl dX7_requireTask_1 (qv_iload_n C dX7_requireTask_4 rfl (qv_callVN C (rest := []) (cb := 1) (sb := 6) (t_X5_faultOfTask hl (show 0 < 11 from (by decide)) a1 s0) mw_X5_faultOfTask lk_X7_80 in_X5_faultOfTask se_X5_faultOfTask rfl (by decide) (by decide) rfl rfl (Nat.le_of_ble_eq_true rfl) (by decide) dX7_requireTask_5 rfl (qkI (fun r1 s1 => (qt_callS C (rest := []) (cb := 0) (sb := 0) (t_X7_refuse hl r1 s1) mw_X7_refuse lk_X7_69 st_X7_refuse rfl (Nat.le_of_ble_eq_true rfl) (by decide) dX7_requireTask_8 rfl ht (qkV (fun s2 => (qv_vret C hret dX7_requireTask_11))))))))))
def f_X7_duration (a1 : Int32) (s0 : qS) : Option qO :=
  qbind (f_X7_requireTask a1 s0) (qvV (fun s1 =>
  qbind (f_X7_at 2 0 a1 s1) (qvI (fun r1 s2 =>
  (some (.inl (some (qI r1)), s2)))) qE0)) qE1
set_option maxRecDepth 100000 in
set_option maxHeartbeats 4000000 in
theorem t_X7_duration {g : qG} {l : Launch} (hl : l.stackTraces = false) (a1 : Int32) (s0 : qS) : qM g l 4 1 6 (.code yX7_duration cX7_duration 2 (some .int)) yX7_duration [qR 0 0, qI a1] s0 (f_X7_duration a1 s0) := by
  refine qM_of (by decide +kernel) hl (List.forall_mem_cons.mpr ⟨rfl, (List.forall_mem_cons.mpr ⟨rfl, (fun _ h => absurd h List.not_mem_nil)⟩)⟩) (Nat.le_of_ble_eq_true rfl) ?_
  intro p e s m args below meth c C hret ht
  show qV p l e _ s m args below meth c g _ _ _ _ _ 0 [some (qR 0 0), some (qI a1)] [] s0
  exact (qv_aload_n C dX7_duration_0 rfl (qv_iload_n C dX7_duration_1 rfl (qt_callV C (rest := []) (cb := 0) (sb := 0) (t_X7_requireTask hl a1 s0) mw_X7_requireTask lk_X7_149 in_X7_requireTask se_X7_requireTask rfl (by decide) (by decide) rfl rfl (Nat.le_of_ble_eq_true rfl) (by decide) dX7_duration_2 rfl ht (qkV (fun s1 => (qv_aload_n C dX7_duration_5 rfl (qv_getR C (j2 := 0) fl_X7_12 cl_X7 rfl (by decide) (by decide) (by decide) rfl rfl dX7_duration_6 (qv_getR C (j2 := 0) fl_X7_112 cl_X5 rfl (by decide) (by decide) (by decide) rfl rfl dX7_duration_9 (qv_iload_n C dX7_duration_12 rfl (qv_callS C (rest := []) (cb := 0) (sb := 0) (t_X7_at hl rfl (by decide) (by decide) a1 s1) mw_X7_at lk_X7_115 st_X7_at rfl (Nat.le_of_ble_eq_true rfl) (by decide) dX7_duration_13 rfl (qkI (fun r1 s2 => (qv_iret C hret dX7_duration_16)))))))))))))
def f_X7_resource (a1 : Int32) (s0 : qS) : Option qO :=
  qbind (f_X7_requireTask a1 s0) (qvV (fun s1 =>
  qbind (f_X7_at 3 0 a1 s1) (qvI (fun r1 s2 =>
  (some (.inl (some (qI r1)), s2)))) qE0)) qE1
set_option maxRecDepth 100000 in
set_option maxHeartbeats 4000000 in
theorem t_X7_resource {g : qG} {l : Launch} (hl : l.stackTraces = false) (a1 : Int32) (s0 : qS) : qM g l 4 1 6 (.code yX7_resource cX7_resource 2 (some .int)) yX7_resource [qR 0 0, qI a1] s0 (f_X7_resource a1 s0) := by
  refine qM_of (by decide +kernel) hl (List.forall_mem_cons.mpr ⟨rfl, (List.forall_mem_cons.mpr ⟨rfl, (fun _ h => absurd h List.not_mem_nil)⟩)⟩) (Nat.le_of_ble_eq_true rfl) ?_
  intro p e s m args below meth c C hret ht
  show qV p l e _ s m args below meth c g _ _ _ _ _ 0 [some (qR 0 0), some (qI a1)] [] s0
  exact (qv_aload_n C dX7_resource_0 rfl (qv_iload_n C dX7_resource_1 rfl (qt_callV C (rest := []) (cb := 0) (sb := 0) (t_X7_requireTask hl a1 s0) mw_X7_requireTask lk_X7_149 in_X7_requireTask se_X7_requireTask rfl (by decide) (by decide) rfl rfl (Nat.le_of_ble_eq_true rfl) (by decide) dX7_resource_2 rfl ht (qkV (fun s1 => (qv_aload_n C dX7_resource_5 rfl (qv_getR C (j2 := 0) fl_X7_12 cl_X7 rfl (by decide) (by decide) (by decide) rfl rfl dX7_resource_6 (qv_getR C (j2 := 0) fl_X7_152 cl_X5 rfl (by decide) (by decide) (by decide) rfl rfl dX7_resource_9 (qv_iload_n C dX7_resource_12 rfl (qv_callS C (rest := []) (cb := 0) (sb := 0) (t_X7_at hl rfl (by decide) (by decide) a1 s1) mw_X7_at lk_X7_115 st_X7_at rfl (Nat.le_of_ble_eq_true rfl) (by decide) dX7_resource_13 rfl (qkI (fun r1 s2 => (qv_iret C hret dX7_resource_16)))))))))))))
def f_X7_demand (a1 : Int32) (s0 : qS) : Option qO :=
  qbind (f_X7_requireTask a1 s0) (qvV (fun s1 =>
  qbind (f_X7_at 4 0 a1 s1) (qvI (fun r1 s2 =>
  (some (.inl (some (qI r1)), s2)))) qE0)) qE1
set_option maxRecDepth 100000 in
set_option maxHeartbeats 4000000 in
theorem t_X7_demand {g : qG} {l : Launch} (hl : l.stackTraces = false) (a1 : Int32) (s0 : qS) : qM g l 4 1 6 (.code yX7_demand cX7_demand 2 (some .int)) yX7_demand [qR 0 0, qI a1] s0 (f_X7_demand a1 s0) := by
  refine qM_of (by decide +kernel) hl (List.forall_mem_cons.mpr ⟨rfl, (List.forall_mem_cons.mpr ⟨rfl, (fun _ h => absurd h List.not_mem_nil)⟩)⟩) (Nat.le_of_ble_eq_true rfl) ?_
  intro p e s m args below meth c C hret ht
  show qV p l e _ s m args below meth c g _ _ _ _ _ 0 [some (qR 0 0), some (qI a1)] [] s0
  exact (qv_aload_n C dX7_demand_0 rfl (qv_iload_n C dX7_demand_1 rfl (qt_callV C (rest := []) (cb := 0) (sb := 0) (t_X7_requireTask hl a1 s0) mw_X7_requireTask lk_X7_149 in_X7_requireTask se_X7_requireTask rfl (by decide) (by decide) rfl rfl (Nat.le_of_ble_eq_true rfl) (by decide) dX7_demand_2 rfl ht (qkV (fun s1 => (qv_aload_n C dX7_demand_5 rfl (qv_getR C (j2 := 0) fl_X7_12 cl_X7 rfl (by decide) (by decide) (by decide) rfl rfl dX7_demand_6 (qv_getR C (j2 := 0) fl_X7_155 cl_X5 rfl (by decide) (by decide) (by decide) rfl rfl dX7_demand_9 (qv_iload_n C dX7_demand_12 rfl (qv_callS C (rest := []) (cb := 0) (sb := 0) (t_X7_at hl rfl (by decide) (by decide) a1 s1) mw_X7_at lk_X7_115 st_X7_at rfl (Nat.le_of_ble_eq_true rfl) (by decide) dX7_demand_13 rfl (qkI (fun r1 s2 => (qv_iret C hret dX7_demand_16)))))))))))))
def f_X7_release (a1 : Int32) (s0 : qS) : Option qO :=
  qbind (f_X7_requireTask a1 s0) (qvV (fun s1 =>
  qbind (f_X7_at 5 0 a1 s1) (qvI (fun r1 s2 =>
  (some (.inl (some (qI r1)), s2)))) qE0)) qE1
set_option maxRecDepth 100000 in
set_option maxHeartbeats 4000000 in
theorem t_X7_release {g : qG} {l : Launch} (hl : l.stackTraces = false) (a1 : Int32) (s0 : qS) : qM g l 4 1 6 (.code yX7_release cX7_release 2 (some .int)) yX7_release [qR 0 0, qI a1] s0 (f_X7_release a1 s0) := by
  refine qM_of (by decide +kernel) hl (List.forall_mem_cons.mpr ⟨rfl, (List.forall_mem_cons.mpr ⟨rfl, (fun _ h => absurd h List.not_mem_nil)⟩)⟩) (Nat.le_of_ble_eq_true rfl) ?_
  intro p e s m args below meth c C hret ht
  show qV p l e _ s m args below meth c g _ _ _ _ _ 0 [some (qR 0 0), some (qI a1)] [] s0
  exact (qv_aload_n C dX7_release_0 rfl (qv_iload_n C dX7_release_1 rfl (qt_callV C (rest := []) (cb := 0) (sb := 0) (t_X7_requireTask hl a1 s0) mw_X7_requireTask lk_X7_149 in_X7_requireTask se_X7_requireTask rfl (by decide) (by decide) rfl rfl (Nat.le_of_ble_eq_true rfl) (by decide) dX7_release_2 rfl ht (qkV (fun s1 => (qv_aload_n C dX7_release_5 rfl (qv_getR C (j2 := 0) fl_X7_12 cl_X7 rfl (by decide) (by decide) (by decide) rfl rfl dX7_release_6 (qv_getR C (j2 := 0) fl_X7_126 cl_X5 rfl (by decide) (by decide) (by decide) rfl rfl dX7_release_9 (qv_iload_n C dX7_release_12 rfl (qv_callS C (rest := []) (cb := 0) (sb := 0) (t_X7_at hl rfl (by decide) (by decide) a1 s1) mw_X7_at lk_X7_115 st_X7_at rfl (Nat.le_of_ble_eq_true rfl) (by decide) dX7_release_13 rfl (qkI (fun r1 s2 => (qv_iret C hret dX7_release_16)))))))))))))
def f_X7_dependsDirectly (a1 : Int32) (a2 : Int32) (s0 : qS) : Option qO :=
  qbind (f_X7_requireTask a1 s0) (qvV (fun s1 =>
  qbind (f_X7_requireTask a2 s1) (qvV (fun s2 =>
  qbind (f_X5_isLinked 0 a1 a2 s2) (qvI (fun r1 s3 =>
  (if qbo r1 then some (.inl (some (qI r1)), s3) else none))) qE0)) qE1)) qE1
set_option maxRecDepth 100000 in
set_option maxHeartbeats 4000000 in
theorem t_X7_dependsDirectly {g : qG} {l : Launch} (hl : l.stackTraces = false) (a1 : Int32) (a2 : Int32) (s0 : qS) : qM g l 4 2 12 (.code yX7_dependsDirectly cX7_dependsDirectly 3 (some .boolean)) yX7_dependsDirectly [qR 0 0, qI a1, qI a2] s0 (f_X7_dependsDirectly a1 a2 s0) := by
  refine qM_of (by decide +kernel) hl (List.forall_mem_cons.mpr ⟨rfl, (List.forall_mem_cons.mpr ⟨rfl, (List.forall_mem_cons.mpr ⟨rfl, (fun _ h => absurd h List.not_mem_nil)⟩)⟩)⟩) (Nat.le_of_ble_eq_true rfl) ?_
  intro p e s m args below meth c C hret ht
  show qV p l e _ s m args below meth c g _ _ _ _ _ 0 [some (qR 0 0), some (qI a1), some (qI a2)] [] s0
  exact (qv_aload_n C dX7_dependsDirectly_0 rfl (qv_iload_n C dX7_dependsDirectly_1 rfl (qt_callV C (rest := []) (cb := 1) (sb := 6) (t_X7_requireTask hl a1 s0) mw_X7_requireTask lk_X7_149 in_X7_requireTask se_X7_requireTask rfl (by decide) (by decide) rfl rfl (Nat.le_of_ble_eq_true rfl) (by decide) dX7_dependsDirectly_2 rfl ht (qkV (fun s1 => (qv_aload_n C dX7_dependsDirectly_5 rfl (qv_iload_n C dX7_dependsDirectly_6 rfl (qt_callV C (rest := []) (cb := 0) (sb := 0) (t_X7_requireTask hl a2 s1) mw_X7_requireTask lk_X7_149 in_X7_requireTask se_X7_requireTask rfl (by decide) (by decide) rfl rfl (Nat.le_of_ble_eq_true rfl) (by decide) dX7_dependsDirectly_7 rfl ht (qkV (fun s2 => (qv_aload_n C dX7_dependsDirectly_10 rfl (qv_getR C (j2 := 0) fl_X7_12 cl_X7 rfl (by decide) (by decide) (by decide) rfl rfl dX7_dependsDirectly_11 (qv_iload_n C dX7_dependsDirectly_14 rfl (qv_iload_n C dX7_dependsDirectly_15 rfl (qv_callVN C (rest := []) (cb := 0) (sb := 0) (t_X5_isLinked hl (show 0 < 11 from (by decide)) a1 a2 s2) mw_X5_isLinked lk_X7_95 in_X5_isLinked se_X5_isLinked rfl (by decide) (by decide) rfl rfl (Nat.le_of_ble_eq_true rfl) (by decide) dX7_dependsDirectly_16 rfl (qkI (fun r1 s3 => (qv_bret C hret dX7_dependsDirectly_19))))))))))))))))))
def f_X7_depends (a1 : Int32) (a2 : Int32) (s0 : qS) : Option qO :=
  qbind (f_X7_requireTask a1 s0) (qvV (fun s1 =>
  qbind (f_X7_requireTask a2 s1) (qvV (fun s2 =>
  qbind (f_X5_reaches 0 a1 a2 s2) (qvI (fun r1 s3 =>
  (if qbo r1 then some (.inl (some (qI r1)), s3) else none))) qE0)) qE1)) qE1
set_option maxRecDepth 100000 in
set_option maxHeartbeats 4000000 in
theorem t_X7_depends {g : qG} {l : Launch} (hl : l.stackTraces = false) (a1 : Int32) (a2 : Int32) (s0 : qS) : qM g l 22 2 12 (.code yX7_depends cX7_depends 3 (some .boolean)) yX7_depends [qR 0 0, qI a1, qI a2] s0 (f_X7_depends a1 a2 s0) := by
  refine qM_of (by decide +kernel) hl (List.forall_mem_cons.mpr ⟨rfl, (List.forall_mem_cons.mpr ⟨rfl, (List.forall_mem_cons.mpr ⟨rfl, (fun _ h => absurd h List.not_mem_nil)⟩)⟩)⟩) (Nat.le_of_ble_eq_true rfl) ?_
  intro p e s m args below meth c C hret ht
  show qV p l e _ s m args below meth c g _ _ _ _ _ 0 [some (qR 0 0), some (qI a1), some (qI a2)] [] s0
  exact (qv_aload_n C dX7_depends_0 rfl (qv_iload_n C dX7_depends_1 rfl (qt_callV C (rest := []) (cb := 1) (sb := 6) (t_X7_requireTask hl a1 s0) mw_X7_requireTask lk_X7_149 in_X7_requireTask se_X7_requireTask rfl (by decide) (by decide) rfl rfl (Nat.le_of_ble_eq_true rfl) (by decide) dX7_depends_2 rfl ht (qkV (fun s1 => (qv_aload_n C dX7_depends_5 rfl (qv_iload_n C dX7_depends_6 rfl (qt_callV C (rest := []) (cb := 0) (sb := 0) (t_X7_requireTask hl a2 s1) mw_X7_requireTask lk_X7_149 in_X7_requireTask se_X7_requireTask rfl (by decide) (by decide) rfl rfl (Nat.le_of_ble_eq_true rfl) (by decide) dX7_depends_7 rfl ht (qkV (fun s2 => (qv_aload_n C dX7_depends_10 rfl (qv_getR C (j2 := 0) fl_X7_12 cl_X7 rfl (by decide) (by decide) (by decide) rfl rfl dX7_depends_11 (qv_iload_n C dX7_depends_14 rfl (qv_iload_n C dX7_depends_15 rfl (qv_callVN C (rest := []) (cb := 0) (sb := 0) (t_X5_reaches hl (show 0 < 11 from (by decide)) a1 a2 s2) mw_X5_reaches lk_X7_161 in_X5_reaches se_X5_reaches rfl (by decide) (by decide) rfl rfl (Nat.le_of_ble_eq_true rfl) (by decide) dX7_depends_16 rfl (qkI (fun r1 s3 => (qv_bret C hret dX7_depends_19))))))))))))))))))
def f_X7_dependsByClosure (a1 : Int32) (a2 : Int32) (s0 : qS) : Option qO :=
  qbind (f_X7_requireTask a1 s0) (qvV (fun s1 =>
  qbind (f_X7_requireTask a2 s1) (qvV (fun s2 =>
  qbind (f_X7_currentPlan  s2) (qvS 11 (fun s3 =>
  qbind (f_X7_at 13 0 a1 s3) (qvI (fun r1 s4 =>
  qbind (f_X7_hasBit r1 a2 s4) (qvI (fun r2 s5 =>
  (if qbo r2 then some (.inl (some (qI r2)), s5) else none))) qE0)) qE0)) qE0)) qE1)) qE1
set_option maxRecDepth 100000 in
set_option maxHeartbeats 4000000 in
theorem t_X7_dependsByClosure {g : qG} {l : Launch} (hl : l.stackTraces = false) (a1 : Int32) (a2 : Int32) (s0 : qS) : qM g l 24 2 12 (.code yX7_dependsByClosure cX7_dependsByClosure 3 (some .boolean)) yX7_dependsByClosure [qR 0 0, qI a1, qI a2] s0 (f_X7_dependsByClosure a1 a2 s0) := by
  refine qM_of (by decide +kernel) hl (List.forall_mem_cons.mpr ⟨rfl, (List.forall_mem_cons.mpr ⟨rfl, (List.forall_mem_cons.mpr ⟨rfl, (fun _ h => absurd h List.not_mem_nil)⟩)⟩)⟩) (Nat.le_of_ble_eq_true rfl) ?_
  intro p e s m args below meth c C hret ht
  show qV p l e _ s m args below meth c g _ _ _ _ _ 0 [some (qR 0 0), some (qI a1), some (qI a2)] [] s0
  exact (qv_aload_n C dX7_dependsByClosure_0 rfl (qv_iload_n C dX7_dependsByClosure_1 rfl (qt_callV C (rest := []) (cb := 1) (sb := 6) (t_X7_requireTask hl a1 s0) mw_X7_requireTask lk_X7_149 in_X7_requireTask se_X7_requireTask rfl (by decide) (by decide) rfl rfl (Nat.le_of_ble_eq_true rfl) (by decide) dX7_dependsByClosure_2 rfl ht (qkV (fun s1 => (qv_aload_n C dX7_dependsByClosure_5 rfl (qv_iload_n C dX7_dependsByClosure_6 rfl (qt_callV C (rest := []) (cb := 0) (sb := 0) (t_X7_requireTask hl a2 s1) mw_X7_requireTask lk_X7_149 in_X7_requireTask se_X7_requireTask rfl (by decide) (by decide) rfl rfl (Nat.le_of_ble_eq_true rfl) (by decide) dX7_dependsByClosure_7 rfl ht (qkV (fun s2 => (qv_aload_n C dX7_dependsByClosure_10 rfl (qv_callV C (rest := []) (cb := 0) (sb := 0) (t_X7_currentPlan hl  s2) mw_X7_currentPlan lk_X7_135 in_X7_currentPlan se_X7_currentPlan rfl (by decide) (by decide) rfl rfl (Nat.le_of_ble_eq_true rfl) (by decide) dX7_dependsByClosure_11 rfl (qkOne (fun s3 => (qv_getR C (j2 := 0) fl_X7_164 cl_X4 rfl (by decide) (by decide) (by decide) rfl rfl dX7_dependsByClosure_14 (qv_iload_n C dX7_dependsByClosure_17 rfl (qv_callS C (rest := []) (cb := 0) (sb := 0) (t_X7_at hl rfl (by decide) (by decide) a1 s3) mw_X7_at lk_X7_115 st_X7_at rfl (Nat.le_of_ble_eq_true rfl) (by decide) dX7_dependsByClosure_18 rfl (qkI (fun r1 s4 => (qv_iload_n C dX7_dependsByClosure_21 rfl (qv_callS C (rest := []) (cb := 0) (sb := 0) (t_X7_hasBit hl r1 a2 s4) mw_X7_hasBit lk_X7_167 st_X7_hasBit rfl (Nat.le_of_ble_eq_true rfl) (by decide) dX7_dependsByClosure_22 rfl (qkI (fun r2 s5 => (qv_bret C hret dX7_dependsByClosure_25))))))))))))))))))))))))
def f_X7_neededCount (a1 : Int32) (s0 : qS) : Option qO :=
  qbind (f_X7_requireTask a1 s0) (qvV (fun s1 =>
  qbind (f_X7_at 6 0 a1 s1) (qvI (fun r1 s2 =>
  qbind (f_J6_bitCount_0f7a4 r1 s2) (qvI (fun r2 s3 =>
  (some (.inl (some (qI r2)), s3)))) qE0)) qE0)) qE1
set_option maxRecDepth 100000 in
set_option maxHeartbeats 4000000 in
theorem t_X7_neededCount {g : qG} {l : Launch} (hl : l.stackTraces = false) (a1 : Int32) (s0 : qS) : qM g l 4 1 6 (.code yX7_neededCount cX7_neededCount 2 (some .int)) yX7_neededCount [qR 0 0, qI a1] s0 (f_X7_neededCount a1 s0) := by
  refine qM_of (by decide +kernel) hl (List.forall_mem_cons.mpr ⟨rfl, (List.forall_mem_cons.mpr ⟨rfl, (fun _ h => absurd h List.not_mem_nil)⟩)⟩) (Nat.le_of_ble_eq_true rfl) ?_
  intro p e s m args below meth c C hret ht
  show qV p l e _ s m args below meth c g _ _ _ _ _ 0 [some (qR 0 0), some (qI a1)] [] s0
  exact (qv_aload_n C dX7_neededCount_0 rfl (qv_iload_n C dX7_neededCount_1 rfl (qt_callV C (rest := []) (cb := 0) (sb := 0) (t_X7_requireTask hl a1 s0) mw_X7_requireTask lk_X7_149 in_X7_requireTask se_X7_requireTask rfl (by decide) (by decide) rfl rfl (Nat.le_of_ble_eq_true rfl) (by decide) dX7_neededCount_2 rfl ht (qkV (fun s1 => (qv_aload_n C dX7_neededCount_5 rfl (qv_getR C (j2 := 0) fl_X7_12 cl_X7 rfl (by decide) (by decide) (by decide) rfl rfl dX7_neededCount_6 (qv_getR C (j2 := 0) fl_X7_170 cl_X5 rfl (by decide) (by decide) (by decide) rfl rfl dX7_neededCount_9 (qv_iload_n C dX7_neededCount_12 rfl (qv_callS C (rest := []) (cb := 0) (sb := 0) (t_X7_at hl rfl (by decide) (by decide) a1 s1) mw_X7_at lk_X7_115 st_X7_at rfl (Nat.le_of_ble_eq_true rfl) (by decide) dX7_neededCount_13 rfl (qkI (fun r1 s2 => (qv_callS C (rest := []) (cb := 0) (sb := 0) (t_J6_bitCount_0f7a4 hl r1 s2) mw_J6_bitCount_0f7a4 lk_X7_173 st_J6_bitCount_0f7a4 rfl (Nat.le_of_ble_eq_true rfl) (by decide) dX7_neededCount_16 rfl (qkI (fun r2 s3 => (qv_iret C hret dX7_neededCount_19))))))))))))))))
def b_X7_dependentCount_9 (rk9 : Int32 → Int32 → Int32 → qS → Option qO) (v1 : Int32) (v2 : Int32) (v3 : Int32) (s0 : qS) : Option qO :=
  (if (s0 1 0 7) ≤ v3 then (some (.inl (some (qI v2)), s0)) else
  qbind (f_X5_isLinked 0 v3 v1 s0) (qvI (fun r1 s2 =>
  (if r1 = 0 then rk9 v1 v2 (v3 + (1 : Int32)) s2 else
  rk9 v1 (v2 + (1 : Int32)) (v3 + (1 : Int32)) s2))) qE0)
def l_X7_dependentCount_9 : Nat → Int32 → Int32 → Int32 → qS → Option qO
  | 0, _, _, _, _ => none
  | n + 1, v1, v2, v3, s0 => b_X7_dependentCount_9  (l_X7_dependentCount_9  n) v1 v2 v3 s0
set_option maxRecDepth 100000 in
set_option maxHeartbeats 4000000 in
theorem bt_X7_dependentCount_9 {p : Program} {l : Launch} {e : Env} {s : State} {m : MethodId} {args : Array Value} {below : List Frame} {meth : Method} {c : Code} {g : qG} (hl : l.stackTraces = false) (C : qC p l s m meth c cX7_dependentCount 4 RX7 g) (hret : meth.sig.returnType = (some .int)) (ht : ∀ x ∈ c.exceptionTable.toList, False)  (rk9 : Int32 → Int32 → Int32 → qS → Option qO) (hrk9 : ∀ (v1 : Int32) (v2 : Int32) (v3 : Int32) (s0 : qS), qV p l e (qrm 4 1 6) s m args below meth c g 4 (qQf g below args s (qrm 4 1 6)) (rk9 v1 v2 v3 s0) 0 0 9 [some (qR 0 0), some (qI v1), some (qI v2), some (qI v3)] [] s0) (v1 : Int32) (v2 : Int32) (v3 : Int32) (s0 : qS) : qV p l e (qrm 4 1 6) s m args below meth c g 4 (qQf g below args s (qrm 4 1 6)) (b_X7_dependentCount_9  rk9 v1 v2 v3 s0) 0 0 9 [some (qR 0 0), some (qI v1), some (qI v2), some (qI v3)] [] s0 :=
  (qv_iload_n C dX7_dependentCount_9 rfl (qv_aload_n C dX7_dependentCount_10 rfl (qv_getR C (j2 := 0) fl_X7_12 cl_X7 rfl (by decide) (by decide) (by decide) rfl rfl dX7_dependentCount_11 (qv_getI C fl_X7_88 cl_X5 rfl (by decide) (by decide) (by decide) rfl dX7_dependentCount_14 (qv_icmp_ge C (tgt := 41) dX7_dependentCount_17 (by decide) (fun _ => (qv_iload_n C dX7_dependentCount_41 rfl (qv_iret C hret dX7_dependentCount_42)))
  (fun _ => (qv_aload_n C dX7_dependentCount_20 rfl (qv_getR C (j2 := 0) fl_X7_12 cl_X7 rfl (by decide) (by decide) (by decide) rfl rfl dX7_dependentCount_21 (qv_iload_n C dX7_dependentCount_24 rfl (qv_iload_n C dX7_dependentCount_25 rfl (qv_callVN C (rest := []) (cb := 0) (sb := 0) (t_X5_isLinked hl (show 0 < 11 from (by decide)) v3 v1 s0) mw_X5_isLinked lk_X7_95 in_X5_isLinked se_X5_isLinked rfl (by decide) (by decide) rfl rfl (Nat.le_of_ble_eq_true rfl) (by decide) dX7_dependentCount_26 rfl (qkI (fun r1 s2 => (qv_if_eq C (tgt := 35) dX7_dependentCount_29 (by decide) (fun _ => (qv_iinc C (v := (v3 + (1 : Int32))) dX7_dependentCount_35 rfl rfl (by decide) rfl (qv_goto C (tgt := 9) dX7_dependentCount_38 (by decide) (qV.weak [true, true, true, true] (hrk9 v1 v2 (v3 + (1 : Int32)) s2)))))
  (fun _ => (qv_iinc C (v := (v2 + (1 : Int32))) dX7_dependentCount_32 rfl rfl (by decide) rfl (qv_iinc C (v := (v3 + (1 : Int32))) dX7_dependentCount_35 rfl rfl (by decide) rfl (qv_goto C (tgt := 9) dX7_dependentCount_38 (by decide) (qV.weak [true, true, true, true] (hrk9 v1 (v2 + (1 : Int32)) (v3 + (1 : Int32)) s2))))))))))))))))))))
theorem lt_X7_dependentCount_9 {p : Program} {l : Launch} {e : Env} {s : State} {m : MethodId} {args : Array Value} {below : List Frame} {meth : Method} {c : Code} {g : qG} (hl : l.stackTraces = false) (C : qC p l s m meth c cX7_dependentCount 4 RX7 g) (hret : meth.sig.returnType = (some .int)) (ht : ∀ x ∈ c.exceptionTable.toList, False)  : ∀ (n : Nat) (v1 : Int32) (v2 : Int32) (v3 : Int32) (s0 : qS), qV p l e (qrm 4 1 6) s m args below meth c g 4 (qQf g below args s (qrm 4 1 6)) (l_X7_dependentCount_9  n v1 v2 v3 s0) 0 0 9 [some (qR 0 0), some (qI v1), some (qI v2), some (qI v3)] [] s0
  | 0, _, _, _, _ => qV.no
  | n + 1, v1, v2, v3, s0 => bt_X7_dependentCount_9 hl C hret ht  _ (lt_X7_dependentCount_9 hl C hret ht  n) v1 v2 v3 s0
def f_X7_dependentCount (a1 : Int32) (s0 : qS) : Option qO :=
  qbind (f_X7_requireTask a1 s0) (qvV (fun s1 =>
  l_X7_dependentCount_9  qFU a1 (0 : Int32) (0 : Int32) s1)) qE1
set_option maxRecDepth 100000 in
set_option maxHeartbeats 4000000 in
theorem t_X7_dependentCount {g : qG} {l : Launch} (hl : l.stackTraces = false) (a1 : Int32) (s0 : qS) : qM g l 4 1 6 (.code yX7_dependentCount cX7_dependentCount 4 (some .int)) yX7_dependentCount [qR 0 0, qI a1] s0 (f_X7_dependentCount a1 s0) := by
  refine qM_of (by decide +kernel) hl (List.forall_mem_cons.mpr ⟨rfl, (List.forall_mem_cons.mpr ⟨rfl, (fun _ h => absurd h List.not_mem_nil)⟩)⟩) (Nat.le_of_ble_eq_true rfl) ?_
  intro p e s m args below meth c C hret ht
  show qV p l e _ s m args below meth c g _ _ _ _ _ 0 [some (qR 0 0), some (qI a1), none, none] [] s0
  exact (qv_aload_n C dX7_dependentCount_0 rfl (qv_iload_n C dX7_dependentCount_1 rfl (qt_callV C (rest := []) (cb := 0) (sb := 0) (t_X7_requireTask hl a1 s0) mw_X7_requireTask lk_X7_149 in_X7_requireTask se_X7_requireTask rfl (by decide) (by decide) rfl rfl (Nat.le_of_ble_eq_true rfl) (by decide) dX7_dependentCount_2 rfl ht (qkV (fun s1 => (qv_iconst C (v := (0 : Int32)) dX7_dependentCount_5 (by decide) (qv_istore_n C dX7_dependentCount_6 (by decide) rfl (qv_iconst C (v := (0 : Int32)) dX7_dependentCount_7 (by decide) (qv_istore_n C dX7_dependentCount_8 (by decide) rfl (qV.weak [true, true, true, true] (lt_X7_dependentCount_9 hl C hret ht  qFU a1 (0 : Int32) (0 : Int32) s1)))))))))))
def f_X7_earliestStart (a1 : Int32) (s0 : qS) : Option qO :=
  qbind (f_X7_requireTask a1 s0) (qvV (fun s1 =>
  qbind (f_X7_currentPlan  s1) (qvS 11 (fun s2 =>
  qbind (f_X7_at 14 0 a1 s2) (qvI (fun r1 s3 =>
  (some (.inl (some (qI r1)), s3)))) qE0)) qE0)) qE1
set_option maxRecDepth 100000 in
set_option maxHeartbeats 4000000 in
theorem t_X7_earliestStart {g : qG} {l : Launch} (hl : l.stackTraces = false) (a1 : Int32) (s0 : qS) : qM g l 24 1 6 (.code yX7_earliestStart cX7_earliestStart 2 (some .int)) yX7_earliestStart [qR 0 0, qI a1] s0 (f_X7_earliestStart a1 s0) := by
  refine qM_of (by decide +kernel) hl (List.forall_mem_cons.mpr ⟨rfl, (List.forall_mem_cons.mpr ⟨rfl, (fun _ h => absurd h List.not_mem_nil)⟩)⟩) (Nat.le_of_ble_eq_true rfl) ?_
  intro p e s m args below meth c C hret ht
  show qV p l e _ s m args below meth c g _ _ _ _ _ 0 [some (qR 0 0), some (qI a1)] [] s0
  exact (qv_aload_n C dX7_earliestStart_0 rfl (qv_iload_n C dX7_earliestStart_1 rfl (qt_callV C (rest := []) (cb := 0) (sb := 0) (t_X7_requireTask hl a1 s0) mw_X7_requireTask lk_X7_149 in_X7_requireTask se_X7_requireTask rfl (by decide) (by decide) rfl rfl (Nat.le_of_ble_eq_true rfl) (by decide) dX7_earliestStart_2 rfl ht (qkV (fun s1 => (qv_aload_n C dX7_earliestStart_5 rfl (qv_callV C (rest := []) (cb := 0) (sb := 0) (t_X7_currentPlan hl  s1) mw_X7_currentPlan lk_X7_135 in_X7_currentPlan se_X7_currentPlan rfl (by decide) (by decide) rfl rfl (Nat.le_of_ble_eq_true rfl) (by decide) dX7_earliestStart_6 rfl (qkOne (fun s2 => (qv_getR C (j2 := 0) fl_X7_193 cl_X4 rfl (by decide) (by decide) (by decide) rfl rfl dX7_earliestStart_9 (qv_iload_n C dX7_earliestStart_12 rfl (qv_callS C (rest := []) (cb := 0) (sb := 0) (t_X7_at hl rfl (by decide) (by decide) a1 s2) mw_X7_at lk_X7_115 st_X7_at rfl (Nat.le_of_ble_eq_true rfl) (by decide) dX7_earliestStart_13 rfl (qkI (fun r1 s3 => (qv_iret C hret dX7_earliestStart_16)))))))))))))))
def f_X7_earliestStartByRounds (a1 : Int32) (s0 : qS) : Option qO :=
  qbind (f_X7_requireTask a1 s0) (qvV (fun s1 =>
  qbind (f_X7_currentPlan  s1) (qvS 11 (fun s2 =>
  qbind (f_X7_at 15 0 a1 s2) (qvI (fun r1 s3 =>
  (some (.inl (some (qI r1)), s3)))) qE0)) qE0)) qE1
set_option maxRecDepth 100000 in
set_option maxHeartbeats 4000000 in
theorem t_X7_earliestStartByRounds {g : qG} {l : Launch} (hl : l.stackTraces = false) (a1 : Int32) (s0 : qS) : qM g l 24 1 6 (.code yX7_earliestStartByRounds cX7_earliestStartByRounds 2 (some .int)) yX7_earliestStartByRounds [qR 0 0, qI a1] s0 (f_X7_earliestStartByRounds a1 s0) := by
  refine qM_of (by decide +kernel) hl (List.forall_mem_cons.mpr ⟨rfl, (List.forall_mem_cons.mpr ⟨rfl, (fun _ h => absurd h List.not_mem_nil)⟩)⟩) (Nat.le_of_ble_eq_true rfl) ?_
  intro p e s m args below meth c C hret ht
  show qV p l e _ s m args below meth c g _ _ _ _ _ 0 [some (qR 0 0), some (qI a1)] [] s0
  exact (qv_aload_n C dX7_earliestStartByRounds_0 rfl (qv_iload_n C dX7_earliestStartByRounds_1 rfl (qt_callV C (rest := []) (cb := 0) (sb := 0) (t_X7_requireTask hl a1 s0) mw_X7_requireTask lk_X7_149 in_X7_requireTask se_X7_requireTask rfl (by decide) (by decide) rfl rfl (Nat.le_of_ble_eq_true rfl) (by decide) dX7_earliestStartByRounds_2 rfl ht (qkV (fun s1 => (qv_aload_n C dX7_earliestStartByRounds_5 rfl (qv_callV C (rest := []) (cb := 0) (sb := 0) (t_X7_currentPlan hl  s1) mw_X7_currentPlan lk_X7_135 in_X7_currentPlan se_X7_currentPlan rfl (by decide) (by decide) rfl rfl (Nat.le_of_ble_eq_true rfl) (by decide) dX7_earliestStartByRounds_6 rfl (qkOne (fun s2 => (qv_getR C (j2 := 0) fl_X7_196 cl_X4 rfl (by decide) (by decide) (by decide) rfl rfl dX7_earliestStartByRounds_9 (qv_iload_n C dX7_earliestStartByRounds_12 rfl (qv_callS C (rest := []) (cb := 0) (sb := 0) (t_X7_at hl rfl (by decide) (by decide) a1 s2) mw_X7_at lk_X7_115 st_X7_at rfl (Nat.le_of_ble_eq_true rfl) (by decide) dX7_earliestStartByRounds_13 rfl (qkI (fun r1 s3 => (qv_iret C hret dX7_earliestStartByRounds_16)))))))))))))))
def f_X7_latestStart (a1 : Int32) (s0 : qS) : Option qO :=
  qbind (f_X7_requireTask a1 s0) (qvV (fun s1 =>
  qbind (f_X7_currentPlan  s1) (qvS 11 (fun s2 =>
  qbind (f_X7_at 16 0 a1 s2) (qvI (fun r1 s3 =>
  (some (.inl (some (qI r1)), s3)))) qE0)) qE0)) qE1
set_option maxRecDepth 100000 in
set_option maxHeartbeats 4000000 in
theorem t_X7_latestStart {g : qG} {l : Launch} (hl : l.stackTraces = false) (a1 : Int32) (s0 : qS) : qM g l 24 1 6 (.code yX7_latestStart cX7_latestStart 2 (some .int)) yX7_latestStart [qR 0 0, qI a1] s0 (f_X7_latestStart a1 s0) := by
  refine qM_of (by decide +kernel) hl (List.forall_mem_cons.mpr ⟨rfl, (List.forall_mem_cons.mpr ⟨rfl, (fun _ h => absurd h List.not_mem_nil)⟩)⟩) (Nat.le_of_ble_eq_true rfl) ?_
  intro p e s m args below meth c C hret ht
  show qV p l e _ s m args below meth c g _ _ _ _ _ 0 [some (qR 0 0), some (qI a1)] [] s0
  exact (qv_aload_n C dX7_latestStart_0 rfl (qv_iload_n C dX7_latestStart_1 rfl (qt_callV C (rest := []) (cb := 0) (sb := 0) (t_X7_requireTask hl a1 s0) mw_X7_requireTask lk_X7_149 in_X7_requireTask se_X7_requireTask rfl (by decide) (by decide) rfl rfl (Nat.le_of_ble_eq_true rfl) (by decide) dX7_latestStart_2 rfl ht (qkV (fun s1 => (qv_aload_n C dX7_latestStart_5 rfl (qv_callV C (rest := []) (cb := 0) (sb := 0) (t_X7_currentPlan hl  s1) mw_X7_currentPlan lk_X7_135 in_X7_currentPlan se_X7_currentPlan rfl (by decide) (by decide) rfl rfl (Nat.le_of_ble_eq_true rfl) (by decide) dX7_latestStart_6 rfl (qkOne (fun s2 => (qv_getR C (j2 := 0) fl_X7_199 cl_X4 rfl (by decide) (by decide) (by decide) rfl rfl dX7_latestStart_9 (qv_iload_n C dX7_latestStart_12 rfl (qv_callS C (rest := []) (cb := 0) (sb := 0) (t_X7_at hl rfl (by decide) (by decide) a1 s2) mw_X7_at lk_X7_115 st_X7_at rfl (Nat.le_of_ble_eq_true rfl) (by decide) dX7_latestStart_13 rfl (qkI (fun r1 s3 => (qv_iret C hret dX7_latestStart_16)))))))))))))))
def f_X7_slack (a1 : Int32) (s0 : qS) : Option qO :=
  qbind (f_X7_requireTask a1 s0) (qvV (fun s1 =>
  qbind (f_X7_currentPlan  s1) (qvS 11 (fun s2 =>
  qbind (f_X4_slackOf a1 s2) (qvI (fun r1 s3 =>
  (some (.inl (some (qI r1)), s3)))) qE0)) qE0)) qE1
set_option maxRecDepth 100000 in
set_option maxHeartbeats 4000000 in
theorem t_X7_slack {g : qG} {l : Launch} (hl : l.stackTraces = false) (a1 : Int32) (s0 : qS) : qM g l 24 1 6 (.code yX7_slack cX7_slack 2 (some .int)) yX7_slack [qR 0 0, qI a1] s0 (f_X7_slack a1 s0) := by
  refine qM_of (by decide +kernel) hl (List.forall_mem_cons.mpr ⟨rfl, (List.forall_mem_cons.mpr ⟨rfl, (fun _ h => absurd h List.not_mem_nil)⟩)⟩) (Nat.le_of_ble_eq_true rfl) ?_
  intro p e s m args below meth c C hret ht
  show qV p l e _ s m args below meth c g _ _ _ _ _ 0 [some (qR 0 0), some (qI a1)] [] s0
  exact (qv_aload_n C dX7_slack_0 rfl (qv_iload_n C dX7_slack_1 rfl (qt_callV C (rest := []) (cb := 0) (sb := 0) (t_X7_requireTask hl a1 s0) mw_X7_requireTask lk_X7_149 in_X7_requireTask se_X7_requireTask rfl (by decide) (by decide) rfl rfl (Nat.le_of_ble_eq_true rfl) (by decide) dX7_slack_2 rfl ht (qkV (fun s1 => (qv_aload_n C dX7_slack_5 rfl (qv_callV C (rest := []) (cb := 0) (sb := 0) (t_X7_currentPlan hl  s1) mw_X7_currentPlan lk_X7_135 in_X7_currentPlan se_X7_currentPlan rfl (by decide) (by decide) rfl rfl (Nat.le_of_ble_eq_true rfl) (by decide) dX7_slack_6 rfl (qkOne (fun s2 => (qv_iload_n C dX7_slack_9 rfl (qv_callVN C (rest := []) (cb := 0) (sb := 0) (t_X4_slackOf hl a1 s2) mw_X4_slackOf lk_X7_202 in_X4_slackOf se_X4_slackOf rfl (by decide) (by decide) rfl rfl (Nat.le_of_ble_eq_true rfl) (by decide) dX7_slack_10 rfl (qkI (fun r1 s3 => (qv_iret C hret dX7_slack_13))))))))))))))
def f_X7_isCritical (a1 : Int32) (s0 : qS) : Option qO :=
  qbind (f_X7_requireTask a1 s0) (qvV (fun s1 =>
  qbind (f_X7_currentPlan  s1) (qvS 11 (fun s2 =>
  qbind (f_X4_slackOf a1 s2) (qvI (fun r1 s3 =>
  (if r1 = 0 then (some (.inl (some (qI (1 : Int32))), s3)) else
  (some (.inl (some (qI (0 : Int32))), s3))))) qE0)) qE0)) qE1
set_option maxRecDepth 100000 in
set_option maxHeartbeats 4000000 in
theorem t_X7_isCritical {g : qG} {l : Launch} (hl : l.stackTraces = false) (a1 : Int32) (s0 : qS) : qM g l 24 1 6 (.code yX7_isCritical cX7_isCritical 2 (some .boolean)) yX7_isCritical [qR 0 0, qI a1] s0 (f_X7_isCritical a1 s0) := by
  refine qM_of (by decide +kernel) hl (List.forall_mem_cons.mpr ⟨rfl, (List.forall_mem_cons.mpr ⟨rfl, (fun _ h => absurd h List.not_mem_nil)⟩)⟩) (Nat.le_of_ble_eq_true rfl) ?_
  intro p e s m args below meth c C hret ht
  show qV p l e _ s m args below meth c g _ _ _ _ _ 0 [some (qR 0 0), some (qI a1)] [] s0
  exact (qv_aload_n C dX7_isCritical_0 rfl (qv_iload_n C dX7_isCritical_1 rfl (qt_callV C (rest := []) (cb := 0) (sb := 0) (t_X7_requireTask hl a1 s0) mw_X7_requireTask lk_X7_149 in_X7_requireTask se_X7_requireTask rfl (by decide) (by decide) rfl rfl (Nat.le_of_ble_eq_true rfl) (by decide) dX7_isCritical_2 rfl ht (qkV (fun s1 => (qv_aload_n C dX7_isCritical_5 rfl (qv_callV C (rest := []) (cb := 0) (sb := 0) (t_X7_currentPlan hl  s1) mw_X7_currentPlan lk_X7_135 in_X7_currentPlan se_X7_currentPlan rfl (by decide) (by decide) rfl rfl (Nat.le_of_ble_eq_true rfl) (by decide) dX7_isCritical_6 rfl (qkOne (fun s2 => (qv_iload_n C dX7_isCritical_9 rfl (qv_callVN C (rest := []) (cb := 0) (sb := 0) (t_X4_slackOf hl a1 s2) mw_X4_slackOf lk_X7_202 in_X4_slackOf se_X4_slackOf rfl (by decide) (by decide) rfl rfl (Nat.le_of_ble_eq_true rfl) (by decide) dX7_isCritical_10 rfl (qkI (fun r1 s3 => (qv_if_ne C (tgt := 20) dX7_isCritical_13 (by decide) (fun _ => (qv_iconst C (v := (1 : Int32)) dX7_isCritical_16 (by decide) (qv_goto C (tgt := 21) dX7_isCritical_17 (by decide) (qv_zret! C hret (qbo_nar (by decide)) dX7_isCritical_21))))
  (fun _ => (qv_iconst C (v := (0 : Int32)) dX7_isCritical_20 (by decide) (qv_zret! C hret (qbo_nar (by decide)) dX7_isCritical_21)))))))))))))))))
def f_X7_levelledStart (a1 : Int32) (s0 : qS) : Option qO :=
  qbind (f_X7_requireTask a1 s0) (qvV (fun s1 =>
  qbind (f_X7_currentPlan  s1) (qvS 11 (fun s2 =>
  qbind (f_X7_at 17 0 a1 s2) (qvI (fun r1 s3 =>
  (some (.inl (some (qI r1)), s3)))) qE0)) qE0)) qE1
set_option maxRecDepth 100000 in
set_option maxHeartbeats 4000000 in
theorem t_X7_levelledStart {g : qG} {l : Launch} (hl : l.stackTraces = false) (a1 : Int32) (s0 : qS) : qM g l 24 1 6 (.code yX7_levelledStart cX7_levelledStart 2 (some .int)) yX7_levelledStart [qR 0 0, qI a1] s0 (f_X7_levelledStart a1 s0) := by
  refine qM_of (by decide +kernel) hl (List.forall_mem_cons.mpr ⟨rfl, (List.forall_mem_cons.mpr ⟨rfl, (fun _ h => absurd h List.not_mem_nil)⟩)⟩) (Nat.le_of_ble_eq_true rfl) ?_
  intro p e s m args below meth c C hret ht
  show qV p l e _ s m args below meth c g _ _ _ _ _ 0 [some (qR 0 0), some (qI a1)] [] s0
  exact (qv_aload_n C dX7_levelledStart_0 rfl (qv_iload_n C dX7_levelledStart_1 rfl (qt_callV C (rest := []) (cb := 0) (sb := 0) (t_X7_requireTask hl a1 s0) mw_X7_requireTask lk_X7_149 in_X7_requireTask se_X7_requireTask rfl (by decide) (by decide) rfl rfl (Nat.le_of_ble_eq_true rfl) (by decide) dX7_levelledStart_2 rfl ht (qkV (fun s1 => (qv_aload_n C dX7_levelledStart_5 rfl (qv_callV C (rest := []) (cb := 0) (sb := 0) (t_X7_currentPlan hl  s1) mw_X7_currentPlan lk_X7_135 in_X7_currentPlan se_X7_currentPlan rfl (by decide) (by decide) rfl rfl (Nat.le_of_ble_eq_true rfl) (by decide) dX7_levelledStart_6 rfl (qkOne (fun s2 => (qv_getR C (j2 := 0) fl_X7_139 cl_X4 rfl (by decide) (by decide) (by decide) rfl rfl dX7_levelledStart_9 (qv_iload_n C dX7_levelledStart_12 rfl (qv_callS C (rest := []) (cb := 0) (sb := 0) (t_X7_at hl rfl (by decide) (by decide) a1 s2) mw_X7_at lk_X7_115 st_X7_at rfl (Nat.le_of_ble_eq_true rfl) (by decide) dX7_levelledStart_13 rfl (qkI (fun r1 s3 => (qv_iret C hret dX7_levelledStart_16)))))))))))))))
def f_X7_baselineStart (a1 : Int32) (s0 : qS) : Option qO :=
  qbind (f_X7_requireTask a1 s0) (qvV (fun s1 =>
  qbind (f_X7_requireBaselineStart a1 s1) (qvV (fun s2 =>
  qbind (f_X7_at 7 0 a1 s2) (qvI (fun r1 s3 =>
  (some (.inl (some (qI r1)), s3)))) qE0)) qE1)) qE1
set_option maxRecDepth 100000 in
set_option maxHeartbeats 4000000 in
theorem t_X7_baselineStart {g : qG} {l : Launch} (hl : l.stackTraces = false) (a1 : Int32) (s0 : qS) : qM g l 4 2 12 (.code yX7_baselineStart cX7_baselineStart 2 (some .int)) yX7_baselineStart [qR 0 0, qI a1] s0 (f_X7_baselineStart a1 s0) := by
  refine qM_of (by decide +kernel) hl (List.forall_mem_cons.mpr ⟨rfl, (List.forall_mem_cons.mpr ⟨rfl, (fun _ h => absurd h List.not_mem_nil)⟩)⟩) (Nat.le_of_ble_eq_true rfl) ?_
  intro p e s m args below meth c C hret ht
  show qV p l e _ s m args below meth c g _ _ _ _ _ 0 [some (qR 0 0), some (qI a1)] [] s0
  exact (qv_aload_n C dX7_baselineStart_0 rfl (qv_iload_n C dX7_baselineStart_1 rfl (qt_callV C (rest := []) (cb := 1) (sb := 6) (t_X7_requireTask hl a1 s0) mw_X7_requireTask lk_X7_149 in_X7_requireTask se_X7_requireTask rfl (by decide) (by decide) rfl rfl (Nat.le_of_ble_eq_true rfl) (by decide) dX7_baselineStart_2 rfl ht (qkV (fun s1 => (qv_aload_n C dX7_baselineStart_5 rfl (qv_iload_n C dX7_baselineStart_6 rfl (qt_callV C (rest := []) (cb := 0) (sb := 0) (t_X7_requireBaselineStart hl a1 s1) mw_X7_requireBaselineStart lk_X7_235 in_X7_requireBaselineStart se_X7_requireBaselineStart rfl (by decide) (by decide) rfl rfl (Nat.le_of_ble_eq_true rfl) (by decide) dX7_baselineStart_7 rfl ht (qkV (fun s2 => (qv_aload_n C dX7_baselineStart_10 rfl (qv_getR C (j2 := 0) fl_X7_12 cl_X7 rfl (by decide) (by decide) (by decide) rfl rfl dX7_baselineStart_11 (qv_getR C (j2 := 0) fl_X7_238 cl_X5 rfl (by decide) (by decide) (by decide) rfl rfl dX7_baselineStart_14 (qv_iload_n C dX7_baselineStart_17 rfl (qv_callS C (rest := []) (cb := 0) (sb := 0) (t_X7_at hl rfl (by decide) (by decide) a1 s2) mw_X7_at lk_X7_115 st_X7_at rfl (Nat.le_of_ble_eq_true rfl) (by decide) dX7_baselineStart_18 rfl (qkI (fun r1 s3 => (qv_iret C hret dX7_baselineStart_21))))))))))))))))))
def f_X7_drift (a1 : Int32) (s0 : qS) : Option qO :=
  qbind (f_X7_requireTask a1 s0) (qvV (fun s1 =>
  qbind (f_X7_requireBaselineStart a1 s1) (qvV (fun s2 =>
  qbind (f_X7_driftOf a1 s2) (qvI (fun r1 s3 =>
  (some (.inl (some (qI r1)), s3)))) qE0)) qE1)) qE1
set_option maxRecDepth 100000 in
set_option maxHeartbeats 4000000 in
theorem t_X7_drift {g : qG} {l : Launch} (hl : l.stackTraces = false) (a1 : Int32) (s0 : qS) : qM g l 25 2 12 (.code yX7_drift cX7_drift 2 (some .int)) yX7_drift [qR 0 0, qI a1] s0 (f_X7_drift a1 s0) := by
  refine qM_of (by decide +kernel) hl (List.forall_mem_cons.mpr ⟨rfl, (List.forall_mem_cons.mpr ⟨rfl, (fun _ h => absurd h List.not_mem_nil)⟩)⟩) (Nat.le_of_ble_eq_true rfl) ?_
  intro p e s m args below meth c C hret ht
  show qV p l e _ s m args below meth c g _ _ _ _ _ 0 [some (qR 0 0), some (qI a1)] [] s0
  exact (qv_aload_n C dX7_drift_0 rfl (qv_iload_n C dX7_drift_1 rfl (qt_callV C (rest := []) (cb := 1) (sb := 6) (t_X7_requireTask hl a1 s0) mw_X7_requireTask lk_X7_149 in_X7_requireTask se_X7_requireTask rfl (by decide) (by decide) rfl rfl (Nat.le_of_ble_eq_true rfl) (by decide) dX7_drift_2 rfl ht (qkV (fun s1 => (qv_aload_n C dX7_drift_5 rfl (qv_iload_n C dX7_drift_6 rfl (qt_callV C (rest := []) (cb := 0) (sb := 0) (t_X7_requireBaselineStart hl a1 s1) mw_X7_requireBaselineStart lk_X7_235 in_X7_requireBaselineStart se_X7_requireBaselineStart rfl (by decide) (by decide) rfl rfl (Nat.le_of_ble_eq_true rfl) (by decide) dX7_drift_7 rfl ht (qkV (fun s2 => (qv_aload_n C dX7_drift_10 rfl (qv_iload_n C dX7_drift_11 rfl (qv_callV C (rest := []) (cb := 0) (sb := 0) (t_X7_driftOf hl a1 s2) mw_X7_driftOf lk_X7_241 in_X7_driftOf se_X7_driftOf rfl (by decide) (by decide) rfl rfl (Nat.le_of_ble_eq_true rfl) (by decide) dX7_drift_12 rfl (qkI (fun r1 s3 => (qv_iret C hret dX7_drift_15))))))))))))))))
def b_X7_taskBySlack_7 (rk7 : Int32 → Int32 → qS → Option qO) (v1 : Int32) (v3 : Int32) (s0 : qS) : Option qO :=
  (if (s0 1 0 7) ≤ v3 then qbind (f_X7_taskAtRank v1 s0) (qvI (fun r1 s2 =>
  (some (.inl (some (qI r1)), s2)))) qE1 else
  qbind (f_X4_slackOf v3 s0) (qvI (fun r2 s3 =>
  qbind (f_X7_at 2 0 v3 s3) (qvI (fun r3 s4 =>
  qbind (f_X7_sortingKey r2 r3 s4) (qvI (fun r4 s5 =>
  qbind (f_X7_put 25 0 v3 r4 s5) (qvV (fun s6 =>
  rk7 v1 (v3 + (1 : Int32)) s6)) qE0)) qE0)) qE0)) qE0)
def l_X7_taskBySlack_7 : Nat → Int32 → Int32 → qS → Option qO
  | 0, _, _, _ => none
  | n + 1, v1, v3, s0 => b_X7_taskBySlack_7  (l_X7_taskBySlack_7  n) v1 v3 s0
set_option maxRecDepth 100000 in
set_option maxHeartbeats 4000000 in
theorem bt_X7_taskBySlack_7 {p : Program} {l : Launch} {e : Env} {s : State} {m : MethodId} {args : Array Value} {below : List Frame} {meth : Method} {c : Code} {g : qG} (hl : l.stackTraces = false) (C : qC p l s m meth c cX7_taskBySlack 4 RX7 g) (hret : meth.sig.returnType = (some .int)) (ht : ∀ x ∈ c.exceptionTable.toList, False)  (rk7 : Int32 → Int32 → qS → Option qO) (hrk7 : ∀ (v1 : Int32) (v3 : Int32) (s0 : qS), qV p l e (qrm 24 1 6) s m args below meth c g 4 (qQf g below args s (qrm 24 1 6)) (rk7 v1 v3 s0) 1 6 7 [some (qR 0 0), some (qI v1), some (qR 11 0), some (qI v3)] [] s0) (v1 : Int32) (v3 : Int32) (s0 : qS) : qV p l e (qrm 24 1 6) s m args below meth c g 4 (qQf g below args s (qrm 24 1 6)) (b_X7_taskBySlack_7  rk7 v1 v3 s0) 1 6 7 [some (qR 0 0), some (qI v1), some (qR 11 0), some (qI v3)] [] s0 :=
  (qv_iload_n C dX7_taskBySlack_7 rfl (qv_aload_n C dX7_taskBySlack_8 rfl (qv_getR C (j2 := 0) fl_X7_12 cl_X7 rfl (by decide) (by decide) (by decide) rfl rfl dX7_taskBySlack_9 (qv_getI C fl_X7_88 cl_X5 rfl (by decide) (by decide) (by decide) rfl dX7_taskBySlack_12 (qv_icmp_ge C (tgt := 51) dX7_taskBySlack_15 (by decide) (fun _ => (qv_aload_n C dX7_taskBySlack_51 rfl (qv_iload_n C dX7_taskBySlack_52 rfl (qt_callV C (rest := []) (cb := 0) (sb := 0) (t_X7_taskAtRank hl v1 s0) mw_X7_taskAtRank lk_X7_256 in_X7_taskAtRank se_X7_taskAtRank rfl (by decide) (by decide) rfl rfl (Nat.le_of_ble_eq_true rfl) (by decide) dX7_taskBySlack_53 rfl ht (qkI (fun r1 s2 => (qv_iret C hret dX7_taskBySlack_56)))))))
  (fun _ => (qv_aload_n C dX7_taskBySlack_18 rfl (qv_getR C (j2 := 0) fl_X7_50 cl_X7 rfl (by decide) (by decide) (by decide) rfl rfl dX7_taskBySlack_19 (qv_iload_n C dX7_taskBySlack_22 rfl (qv_aload_n C dX7_taskBySlack_23 rfl (qv_iload_n C dX7_taskBySlack_24 rfl (qv_callVN C (rest := [qI v3, qR 25 0]) (cb := 1) (sb := 6) (t_X4_slackOf hl v3 s0) mw_X4_slackOf lk_X7_202 in_X4_slackOf se_X4_slackOf rfl (by decide) (by decide) rfl rfl (Nat.le_of_ble_eq_true rfl) (by decide) dX7_taskBySlack_25 rfl (qkI (fun r2 s3 => (qv_aload_n C dX7_taskBySlack_28 rfl (qv_getR C (j2 := 0) fl_X7_12 cl_X7 rfl (by decide) (by decide) (by decide) rfl rfl dX7_taskBySlack_29 (qv_getR C (j2 := 0) fl_X7_112 cl_X5 rfl (by decide) (by decide) (by decide) rfl rfl dX7_taskBySlack_32 (qv_iload_n C dX7_taskBySlack_35 rfl (qv_callS C (rest := [qI r2, qI v3, qR 25 0]) (cb := 1) (sb := 6) (t_X7_at hl rfl (by decide) (by decide) v3 s3) mw_X7_at lk_X7_115 st_X7_at rfl (Nat.le_of_ble_eq_true rfl) (by decide) dX7_taskBySlack_36 rfl (qkI (fun r3 s4 => (qv_callS C (rest := [qI v3, qR 25 0]) (cb := 1) (sb := 6) (t_X7_sortingKey hl r2 r3 s4) mw_X7_sortingKey lk_X7_253 st_X7_sortingKey rfl (Nat.le_of_ble_eq_true rfl) (by decide) dX7_taskBySlack_39 rfl (qkI (fun r4 s5 => (qv_callS C (rest := []) (cb := 1) (sb := 6) (t_X7_put hl rfl (by decide) (by decide) v3 r4 s5) mw_X7_put lk_X7_119 st_X7_put rfl (Nat.le_of_ble_eq_true rfl) (by decide) dX7_taskBySlack_42 rfl (qkV (fun s6 => (qv_iinc C (v := (v3 + (1 : Int32))) dX7_taskBySlack_45 rfl rfl (by decide) rfl (qv_goto C (tgt := 7) dX7_taskBySlack_48 (by decide) (qV.weak [true, true, true, true] (hrk7 v1 (v3 + (1 : Int32)) s6)))))))))))))))))))))))))))))))
theorem lt_X7_taskBySlack_7 {p : Program} {l : Launch} {e : Env} {s : State} {m : MethodId} {args : Array Value} {below : List Frame} {meth : Method} {c : Code} {g : qG} (hl : l.stackTraces = false) (C : qC p l s m meth c cX7_taskBySlack 4 RX7 g) (hret : meth.sig.returnType = (some .int)) (ht : ∀ x ∈ c.exceptionTable.toList, False)  : ∀ (n : Nat) (v1 : Int32) (v3 : Int32) (s0 : qS), qV p l e (qrm 24 1 6) s m args below meth c g 4 (qQf g below args s (qrm 24 1 6)) (l_X7_taskBySlack_7  n v1 v3 s0) 1 6 7 [some (qR 0 0), some (qI v1), some (qR 11 0), some (qI v3)] [] s0
  | 0, _, _, _ => qV.no
  | n + 1, v1, v3, s0 => bt_X7_taskBySlack_7 hl C hret ht  _ (lt_X7_taskBySlack_7 hl C hret ht  n) v1 v3 s0
def f_X7_taskBySlack (a1 : Int32) (s0 : qS) : Option qO :=
  qbind (f_X7_currentPlan  s0) (qvS 11 (fun s1 =>
  l_X7_taskBySlack_7  qFU a1 (0 : Int32) s1)) qE0
set_option maxRecDepth 100000 in
set_option maxHeartbeats 4000000 in
theorem t_X7_taskBySlack {g : qG} {l : Launch} (hl : l.stackTraces = false) (a1 : Int32) (s0 : qS) : qM g l 24 1 6 (.code yX7_taskBySlack cX7_taskBySlack 4 (some .int)) yX7_taskBySlack [qR 0 0, qI a1] s0 (f_X7_taskBySlack a1 s0) := by
  refine qM_of (by decide +kernel) hl (List.forall_mem_cons.mpr ⟨rfl, (List.forall_mem_cons.mpr ⟨rfl, (fun _ h => absurd h List.not_mem_nil)⟩)⟩) (Nat.le_of_ble_eq_true rfl) ?_
  intro p e s m args below meth c C hret ht
  show qV p l e _ s m args below meth c g _ _ _ _ _ 0 [some (qR 0 0), some (qI a1), none, none] [] s0
  exact (qv_aload_n C dX7_taskBySlack_0 rfl (qv_callV C (rest := []) (cb := 1) (sb := 6) (t_X7_currentPlan hl  s0) mw_X7_currentPlan lk_X7_135 in_X7_currentPlan se_X7_currentPlan rfl (by decide) (by decide) rfl rfl (Nat.le_of_ble_eq_true rfl) (by decide) dX7_taskBySlack_1 rfl (qkOne (fun s1 => (qv_astore_n C dX7_taskBySlack_4 (by decide) rfl (qv_iconst C (v := (0 : Int32)) dX7_taskBySlack_5 (by decide) (qv_istore_n C dX7_taskBySlack_6 (by decide) rfl (qV.weak [true, true, true, true] (lt_X7_taskBySlack_7 hl C hret ht  qFU a1 (0 : Int32) s1)))))))))
def b_X7_taskByStart_7 (rk7 : Int32 → Int32 → qS → Option qO) (v1 : Int32) (v3 : Int32) (s0 : qS) : Option qO :=
  (if (s0 1 0 7) ≤ v3 then qbind (f_X7_taskAtRank v1 s0) (qvI (fun r1 s2 =>
  (some (.inl (some (qI r1)), s2)))) qE1 else
  qbind (f_X7_at 17 0 v3 s0) (qvI (fun r2 s3 =>
  qbind (f_X7_at 4 0 v3 s3) (qvI (fun r3 s4 =>
  qbind (f_X7_sortingKey r2 r3 s4) (qvI (fun r4 s5 =>
  qbind (f_X7_put 25 0 v3 r4 s5) (qvV (fun s6 =>
  rk7 v1 (v3 + (1 : Int32)) s6)) qE0)) qE0)) qE0)) qE0)
def l_X7_taskByStart_7 : Nat → Int32 → Int32 → qS → Option qO
  | 0, _, _, _ => none
  | n + 1, v1, v3, s0 => b_X7_taskByStart_7  (l_X7_taskByStart_7  n) v1 v3 s0
set_option maxRecDepth 100000 in
set_option maxHeartbeats 4000000 in
theorem bt_X7_taskByStart_7 {p : Program} {l : Launch} {e : Env} {s : State} {m : MethodId} {args : Array Value} {below : List Frame} {meth : Method} {c : Code} {g : qG} (hl : l.stackTraces = false) (C : qC p l s m meth c cX7_taskByStart 4 RX7 g) (hret : meth.sig.returnType = (some .int)) (ht : ∀ x ∈ c.exceptionTable.toList, False)  (rk7 : Int32 → Int32 → qS → Option qO) (hrk7 : ∀ (v1 : Int32) (v3 : Int32) (s0 : qS), qV p l e (qrm 24 1 6) s m args below meth c g 4 (qQf g below args s (qrm 24 1 6)) (rk7 v1 v3 s0) 1 6 7 [some (qR 0 0), some (qI v1), some (qR 11 0), some (qI v3)] [] s0) (v1 : Int32) (v3 : Int32) (s0 : qS) : qV p l e (qrm 24 1 6) s m args below meth c g 4 (qQf g below args s (qrm 24 1 6)) (b_X7_taskByStart_7  rk7 v1 v3 s0) 1 6 7 [some (qR 0 0), some (qI v1), some (qR 11 0), some (qI v3)] [] s0 :=
  (qv_iload_n C dX7_taskByStart_7 rfl (qv_aload_n C dX7_taskByStart_8 rfl (qv_getR C (j2 := 0) fl_X7_12 cl_X7 rfl (by decide) (by decide) (by decide) rfl rfl dX7_taskByStart_9 (qv_getI C fl_X7_88 cl_X5 rfl (by decide) (by decide) (by decide) rfl dX7_taskByStart_12 (qv_icmp_ge C (tgt := 54) dX7_taskByStart_15 (by decide) (fun _ => (qv_aload_n C dX7_taskByStart_54 rfl (qv_iload_n C dX7_taskByStart_55 rfl (qt_callV C (rest := []) (cb := 0) (sb := 0) (t_X7_taskAtRank hl v1 s0) mw_X7_taskAtRank lk_X7_256 in_X7_taskAtRank se_X7_taskAtRank rfl (by decide) (by decide) rfl rfl (Nat.le_of_ble_eq_true rfl) (by decide) dX7_taskByStart_56 rfl ht (qkI (fun r1 s2 => (qv_iret C hret dX7_taskByStart_59)))))))
  (fun _ => (qv_aload_n C dX7_taskByStart_18 rfl (qv_getR C (j2 := 0) fl_X7_50 cl_X7 rfl (by decide) (by decide) (by decide) rfl rfl dX7_taskByStart_19 (qv_iload_n C dX7_taskByStart_22 rfl (qv_aload_n C dX7_taskByStart_23 rfl (qv_getR C (j2 := 0) fl_X7_139 cl_X4 rfl (by decide) (by decide) (by decide) rfl rfl dX7_taskByStart_24 (qv_iload_n C dX7_taskByStart_27 rfl (qv_callS C (rest := [qI v3, qR 25 0]) (cb := 1) (sb := 6) (t_X7_at hl rfl (by decide) (by decide) v3 s0) mw_X7_at lk_X7_115 st_X7_at rfl (Nat.le_of_ble_eq_true rfl) (by decide) dX7_taskByStart_28 rfl (qkI (fun r2 s3 => (qv_aload_n C dX7_taskByStart_31 rfl (qv_getR C (j2 := 0) fl_X7_12 cl_X7 rfl (by decide) (by decide) (by decide) rfl rfl dX7_taskByStart_32 (qv_getR C (j2 := 0) fl_X7_155 cl_X5 rfl (by decide) (by decide) (by decide) rfl rfl dX7_taskByStart_35 (qv_iload_n C dX7_taskByStart_38 rfl (qv_callS C (rest := [qI r2, qI v3, qR 25 0]) (cb := 1) (sb := 6) (t_X7_at hl rfl (by decide) (by decide) v3 s3) mw_X7_at lk_X7_115 st_X7_at rfl (Nat.le_of_ble_eq_true rfl) (by decide) dX7_taskByStart_39 rfl (qkI (fun r3 s4 => (qv_callS C (rest := [qI v3, qR 25 0]) (cb := 1) (sb := 6) (t_X7_sortingKey hl r2 r3 s4) mw_X7_sortingKey lk_X7_253 st_X7_sortingKey rfl (Nat.le_of_ble_eq_true rfl) (by decide) dX7_taskByStart_42 rfl (qkI (fun r4 s5 => (qv_callS C (rest := []) (cb := 1) (sb := 6) (t_X7_put hl rfl (by decide) (by decide) v3 r4 s5) mw_X7_put lk_X7_119 st_X7_put rfl (Nat.le_of_ble_eq_true rfl) (by decide) dX7_taskByStart_45 rfl (qkV (fun s6 => (qv_iinc C (v := (v3 + (1 : Int32))) dX7_taskByStart_48 rfl rfl (by decide) rfl (qv_goto C (tgt := 7) dX7_taskByStart_51 (by decide) (qV.weak [true, true, true, true] (hrk7 v1 (v3 + (1 : Int32)) s6))))))))))))))))))))))))))))))))
theorem lt_X7_taskByStart_7 {p : Program} {l : Launch} {e : Env} {s : State} {m : MethodId} {args : Array Value} {below : List Frame} {meth : Method} {c : Code} {g : qG} (hl : l.stackTraces = false) (C : qC p l s m meth c cX7_taskByStart 4 RX7 g) (hret : meth.sig.returnType = (some .int)) (ht : ∀ x ∈ c.exceptionTable.toList, False)  : ∀ (n : Nat) (v1 : Int32) (v3 : Int32) (s0 : qS), qV p l e (qrm 24 1 6) s m args below meth c g 4 (qQf g below args s (qrm 24 1 6)) (l_X7_taskByStart_7  n v1 v3 s0) 1 6 7 [some (qR 0 0), some (qI v1), some (qR 11 0), some (qI v3)] [] s0
  | 0, _, _, _ => qV.no
  | n + 1, v1, v3, s0 => bt_X7_taskByStart_7 hl C hret ht  _ (lt_X7_taskByStart_7 hl C hret ht  n) v1 v3 s0
def f_X7_taskByStart (a1 : Int32) (s0 : qS) : Option qO :=
  qbind (f_X7_currentPlan  s0) (qvS 11 (fun s1 =>
  l_X7_taskByStart_7  qFU a1 (0 : Int32) s1)) qE0
set_option maxRecDepth 100000 in
set_option maxHeartbeats 4000000 in
theorem t_X7_taskByStart {g : qG} {l : Launch} (hl : l.stackTraces = false) (a1 : Int32) (s0 : qS) : qM g l 24 1 6 (.code yX7_taskByStart cX7_taskByStart 4 (some .int)) yX7_taskByStart [qR 0 0, qI a1] s0 (f_X7_taskByStart a1 s0) := by
  refine qM_of (by decide +kernel) hl (List.forall_mem_cons.mpr ⟨rfl, (List.forall_mem_cons.mpr ⟨rfl, (fun _ h => absurd h List.not_mem_nil)⟩)⟩) (Nat.le_of_ble_eq_true rfl) ?_
  intro p e s m args below meth c C hret ht
  show qV p l e _ s m args below meth c g _ _ _ _ _ 0 [some (qR 0 0), some (qI a1), none, none] [] s0
  exact (qv_aload_n C dX7_taskByStart_0 rfl (qv_callV C (rest := []) (cb := 1) (sb := 6) (t_X7_currentPlan hl  s0) mw_X7_currentPlan lk_X7_135 in_X7_currentPlan se_X7_currentPlan rfl (by decide) (by decide) rfl rfl (Nat.le_of_ble_eq_true rfl) (by decide) dX7_taskByStart_1 rfl (qkOne (fun s1 => (qv_astore_n C dX7_taskByStart_4 (by decide) rfl (qv_iconst C (v := (0 : Int32)) dX7_taskByStart_5 (by decide) (qv_istore_n C dX7_taskByStart_6 (by decide) rfl (qV.weak [true, true, true, true] (lt_X7_taskByStart_7 hl C hret ht  qFU a1 (0 : Int32) s1)))))))))
def b_X7_renderTask_149 (rk149 : Int32 → Int32 → qS → Option qO) (v1 : Int32) (v3 : Int32) (s0 : qS) : Option qO :=
  (if (s0 1 0 7) ≤ v3 then (some (.inl (some (qI (s0 23 0 1))), s0)) else
  qbind (f_X5_isLinked 0 v1 v3 s0) (qvI (fun r6 s19 =>
  (if r6 = 0 then rk149 v1 (v3 + (1 : Int32)) s19 else
  qbind (f_X3_write (60 : Int32) s19) (qvV (fun s20 =>
  qbind (f_X3_writeNumber v3 s20) (qvV (fun s21 =>
  rk149 v1 (v3 + (1 : Int32)) s21)) qE0)) qE0))) qE0)
def l_X7_renderTask_149 : Nat → Int32 → Int32 → qS → Option qO
  | 0, _, _, _ => none
  | n + 1, v1, v3, s0 => b_X7_renderTask_149  (l_X7_renderTask_149  n) v1 v3 s0
set_option maxRecDepth 100000 in
set_option maxHeartbeats 4000000 in
theorem bt_X7_renderTask_149 {p : Program} {l : Launch} {e : Env} {s : State} {m : MethodId} {args : Array Value} {below : List Frame} {meth : Method} {c : Code} {g : qG} (hl : l.stackTraces = false) (C : qC p l s m meth c cX7_renderTask 4 RX7 g) (hret : meth.sig.returnType = (some .int)) (ht : ∀ x ∈ c.exceptionTable.toList, False)  (rk149 : Int32 → Int32 → qS → Option qO) (hrk149 : ∀ (v1 : Int32) (v3 : Int32) (s0 : qS), qV p l e (qrm 24 1 6) s m args below meth c g 4 (qQf g below args s (qrm 24 1 6)) (rk149 v1 v3 s0) 0 0 149 [some (qR 0 0), some (qI v1), none, some (qI v3)] [] s0) (v1 : Int32) (v3 : Int32) (s0 : qS) : qV p l e (qrm 24 1 6) s m args below meth c g 4 (qQf g below args s (qrm 24 1 6)) (b_X7_renderTask_149  rk149 v1 v3 s0) 0 0 149 [some (qR 0 0), some (qI v1), none, some (qI v3)] [] s0 :=
  (qv_iload_n C dX7_renderTask_149 rfl (qv_aload_n C dX7_renderTask_150 rfl (qv_getR C (j2 := 0) fl_X7_12 cl_X7 rfl (by decide) (by decide) (by decide) rfl rfl dX7_renderTask_151 (qv_getI C fl_X7_88 cl_X5 rfl (by decide) (by decide) (by decide) rfl dX7_renderTask_154 (qv_icmp_ge C (tgt := 195) dX7_renderTask_157 (by decide) (fun _ => (qv_aload_n C dX7_renderTask_195 rfl (qv_getR C (j2 := 0) fl_X7_46 cl_X7 rfl (by decide) (by decide) (by decide) rfl rfl dX7_renderTask_196 (qv_getI C fl_X7_281 cl_X3 rfl (by decide) (by decide) (by decide) rfl dX7_renderTask_199 (qv_iret C hret dX7_renderTask_202)))))
  (fun _ => (qv_aload_n C dX7_renderTask_160 rfl (qv_getR C (j2 := 0) fl_X7_12 cl_X7 rfl (by decide) (by decide) (by decide) rfl rfl dX7_renderTask_161 (qv_iload_n C dX7_renderTask_164 rfl (qv_iload_n C dX7_renderTask_165 rfl (qv_callVN C (rest := []) (cb := 0) (sb := 0) (t_X5_isLinked hl (show 0 < 11 from (by decide)) v1 v3 s0) mw_X5_isLinked lk_X7_95 in_X5_isLinked se_X5_isLinked rfl (by decide) (by decide) rfl rfl (Nat.le_of_ble_eq_true rfl) (by decide) dX7_renderTask_166 rfl (qkI (fun r6 s19 => (qv_if_eq C (tgt := 189) dX7_renderTask_169 (by decide) (fun _ => (qv_iinc C (v := (v3 + (1 : Int32))) dX7_renderTask_189 rfl rfl (by decide) rfl (qv_goto C (tgt := 149) dX7_renderTask_192 (by decide) (qV.weak [true, true, false, true] (hrk149 v1 (v3 + (1 : Int32)) s19)))))
  (fun _ => (qv_aload_n C dX7_renderTask_172 rfl (qv_getR C (j2 := 0) fl_X7_46 cl_X7 rfl (by decide) (by decide) (by decide) rfl rfl dX7_renderTask_173 (qv_bipush C (v := (60 : Int32)) dX7_renderTask_176 (by decide) (qv_callVN C (rest := []) (cb := 0) (sb := 0) (t_X3_write hl (60 : Int32) s19) mw_X3_write lk_X7_278 in_X3_write se_X3_write rfl (by decide) (by decide) rfl rfl (Nat.le_of_ble_eq_true rfl) (by decide) dX7_renderTask_178 rfl (qkV (fun s20 => (qv_aload_n C dX7_renderTask_181 rfl (qv_getR C (j2 := 0) fl_X7_46 cl_X7 rfl (by decide) (by decide) (by decide) rfl rfl dX7_renderTask_182 (qv_iload_n C dX7_renderTask_185 rfl (qv_callVN C (rest := []) (cb := 0) (sb := 0) (t_X3_writeNumber hl v3 s20) mw_X3_writeNumber lk_X7_275 in_X3_writeNumber se_X3_writeNumber rfl (by decide) (by decide) rfl rfl (Nat.le_of_ble_eq_true rfl) (by decide) dX7_renderTask_186 rfl (qkV (fun s21 => (qv_iinc C (v := (v3 + (1 : Int32))) dX7_renderTask_189 rfl rfl (by decide) rfl (qv_goto C (tgt := 149) dX7_renderTask_192 (by decide) (qV.weak [true, true, false, true] (hrk149 v1 (v3 + (1 : Int32)) s21)))))))))))))))))))))))))))))))
theorem lt_X7_renderTask_149 {p : Program} {l : Launch} {e : Env} {s : State} {m : MethodId} {args : Array Value} {below : List Frame} {meth : Method} {c : Code} {g : qG} (hl : l.stackTraces = false) (C : qC p l s m meth c cX7_renderTask 4 RX7 g) (hret : meth.sig.returnType = (some .int)) (ht : ∀ x ∈ c.exceptionTable.toList, False)  : ∀ (n : Nat) (v1 : Int32) (v3 : Int32) (s0 : qS), qV p l e (qrm 24 1 6) s m args below meth c g 4 (qQf g below args s (qrm 24 1 6)) (l_X7_renderTask_149  n v1 v3 s0) 0 0 149 [some (qR 0 0), some (qI v1), none, some (qI v3)] [] s0
  | 0, _, _, _ => qV.no
  | n + 1, v1, v3, s0 => bt_X7_renderTask_149 hl C hret ht  _ (lt_X7_renderTask_149 hl C hret ht  n) v1 v3 s0
def f_X7_renderTask (a1 : Int32) (s0 : qS) : Option qO :=
  qbind (f_X7_requireTask a1 s0) (qvV (fun s1 =>
  qbind (f_X7_currentPlan  s1) (qvS 11 (fun s2 =>
  qbind (f_X3_clear  s2) (qvV (fun s3 =>
  qbind (f_X3_writeNumber a1 s3) (qvV (fun s4 =>
  qbind (f_X3_write (58 : Int32) s4) (qvV (fun s5 =>
  qbind (f_X7_at 2 0 a1 s5) (qvI (fun r1 s6 =>
  qbind (f_X3_writeNumber r1 s6) (qvV (fun s7 =>
  qbind (f_X3_write (120 : Int32) s7) (qvV (fun s8 =>
  qbind (f_X7_at 4 0 a1 s8) (qvI (fun r2 s9 =>
  qbind (f_X3_writeNumber r2 s9) (qvV (fun s10 =>
  qbind (f_X3_write (114 : Int32) s10) (qvV (fun s11 =>
  qbind (f_X7_at 3 0 a1 s11) (qvI (fun r3 s12 =>
  qbind (f_X3_writeNumber r3 s12) (qvV (fun s13 =>
  qbind (f_X3_write (64 : Int32) s13) (qvV (fun s14 =>
  qbind (f_X7_at 17 0 a1 s14) (qvI (fun r4 s15 =>
  qbind (f_X3_writeNumber r4 s15) (qvV (fun s16 =>
  qbind (f_X4_slackOf a1 s16) (qvI (fun r5 s17 =>
  (if r5 = 0 then qbind (f_X3_write (33 : Int32) s17) (qvV (fun s18 =>
  l_X7_renderTask_149  qFU a1 (0 : Int32) s18)) qE0 else
  l_X7_renderTask_149  qFU a1 (0 : Int32) s17))) qE0)) qE0)) qE0)) qE0)) qE0)) qE0)) qE0)) qE0)) qE0)) qE0)) qE0)) qE0)) qE0)) qE0)) qE0)) qE0)) qE1
set_option maxRecDepth 100000 in
set_option maxHeartbeats 4000000 in
theorem t_X7_renderTask {g : qG} {l : Launch} (hl : l.stackTraces = false) (a1 : Int32) (s0 : qS) : qM g l 24 1 6 (.code yX7_renderTask cX7_renderTask 4 (some .int)) yX7_renderTask [qR 0 0, qI a1] s0 (f_X7_renderTask a1 s0) := by
  refine qM_of (by decide +kernel) hl (List.forall_mem_cons.mpr ⟨rfl, (List.forall_mem_cons.mpr ⟨rfl, (fun _ h => absurd h List.not_mem_nil)⟩)⟩) (Nat.le_of_ble_eq_true rfl) ?_
  intro p e s m args below meth c C hret ht
  show qV p l e _ s m args below meth c g _ _ _ _ _ 0 [some (qR 0 0), some (qI a1), none, none] [] s0
  exact (qv_aload_n C dX7_renderTask_0 rfl (qv_iload_n C dX7_renderTask_1 rfl (qt_callV C (rest := []) (cb := 0) (sb := 0) (t_X7_requireTask hl a1 s0) mw_X7_requireTask lk_X7_149 in_X7_requireTask se_X7_requireTask rfl (by decide) (by decide) rfl rfl (Nat.le_of_ble_eq_true rfl) (by decide) dX7_renderTask_2 rfl ht (qkV (fun s1 => (qv_aload_n C dX7_renderTask_5 rfl (qv_callV C (rest := []) (cb := 0) (sb := 0) (t_X7_currentPlan hl  s1) mw_X7_currentPlan lk_X7_135 in_X7_currentPlan se_X7_currentPlan rfl (by decide) (by decide) rfl rfl (Nat.le_of_ble_eq_true rfl) (by decide) dX7_renderTask_6 rfl (qkOne (fun s2 => (qv_astore_n C dX7_renderTask_9 (by decide) rfl (qv_aload_n C dX7_renderTask_10 rfl (qv_getR C (j2 := 0) fl_X7_46 cl_X7 rfl (by decide) (by decide) (by decide) rfl rfl dX7_renderTask_11 (qv_callVN C (rest := []) (cb := 0) (sb := 0) (t_X3_clear hl  s2) mw_X3_clear lk_X7_272 in_X3_clear se_X3_clear rfl (by decide) (by decide) rfl rfl (Nat.le_of_ble_eq_true rfl) (by decide) dX7_renderTask_14 rfl (qkV (fun s3 => (qv_aload_n C dX7_renderTask_17 rfl (qv_getR C (j2 := 0) fl_X7_46 cl_X7 rfl (by decide) (by decide) (by decide) rfl rfl dX7_renderTask_18 (qv_iload_n C dX7_renderTask_21 rfl (qv_callVN C (rest := []) (cb := 0) (sb := 0) (t_X3_writeNumber hl a1 s3) mw_X3_writeNumber lk_X7_275 in_X3_writeNumber se_X3_writeNumber rfl (by decide) (by decide) rfl rfl (Nat.le_of_ble_eq_true rfl) (by decide) dX7_renderTask_22 rfl (qkV (fun s4 => (qv_aload_n C dX7_renderTask_25 rfl (qv_getR C (j2 := 0) fl_X7_46 cl_X7 rfl (by decide) (by decide) (by decide) rfl rfl dX7_renderTask_26 (qv_bipush C (v := (58 : Int32)) dX7_renderTask_29 (by decide) (qv_callVN C (rest := []) (cb := 0) (sb := 0) (t_X3_write hl (58 : Int32) s4) mw_X3_write lk_X7_278 in_X3_write se_X3_write rfl (by decide) (by decide) rfl rfl (Nat.le_of_ble_eq_true rfl) (by decide) dX7_renderTask_31 rfl (qkV (fun s5 => (qv_aload_n C dX7_renderTask_34 rfl (qv_getR C (j2 := 0) fl_X7_46 cl_X7 rfl (by decide) (by decide) (by decide) rfl rfl dX7_renderTask_35 (qv_aload_n C dX7_renderTask_38 rfl (qv_getR C (j2 := 0) fl_X7_12 cl_X7 rfl (by decide) (by decide) (by decide) rfl rfl dX7_renderTask_39 (qv_getR C (j2 := 0) fl_X7_112 cl_X5 rfl (by decide) (by decide) (by decide) rfl rfl dX7_renderTask_42 (qv_iload_n C dX7_renderTask_45 rfl (qv_callS C (rest := [qR 23 0]) (cb := 0) (sb := 0) (t_X7_at hl rfl (by decide) (by decide) a1 s5) mw_X7_at lk_X7_115 st_X7_at rfl (Nat.le_of_ble_eq_true rfl) (by decide) dX7_renderTask_46 rfl (qkI (fun r1 s6 => (qv_callVN C (rest := []) (cb := 0) (sb := 0) (t_X3_writeNumber hl r1 s6) mw_X3_writeNumber lk_X7_275 in_X3_writeNumber se_X3_writeNumber rfl (by decide) (by decide) rfl rfl (Nat.le_of_ble_eq_true rfl) (by decide) dX7_renderTask_49 rfl (qkV (fun s7 => (qv_aload_n C dX7_renderTask_52 rfl (qv_getR C (j2 := 0) fl_X7_46 cl_X7 rfl (by decide) (by decide) (by decide) rfl rfl dX7_renderTask_53 (qv_bipush C (v := (120 : Int32)) dX7_renderTask_56 (by decide) (qv_callVN C (rest := []) (cb := 0) (sb := 0) (t_X3_write hl (120 : Int32) s7) mw_X3_write lk_X7_278 in_X3_write se_X3_write rfl (by decide) (by decide) rfl rfl (Nat.le_of_ble_eq_true rfl) (by decide) dX7_renderTask_58 rfl (qkV (fun s8 => (qv_aload_n C dX7_renderTask_61 rfl (qv_getR C (j2 := 0) fl_X7_46 cl_X7 rfl (by decide) (by decide) (by decide) rfl rfl dX7_renderTask_62 (qv_aload_n C dX7_renderTask_65 rfl (qv_getR C (j2 := 0) fl_X7_12 cl_X7 rfl (by decide) (by decide) (by decide) rfl rfl dX7_renderTask_66 (qv_getR C (j2 := 0) fl_X7_155 cl_X5 rfl (by decide) (by decide) (by decide) rfl rfl dX7_renderTask_69 (qv_iload_n C dX7_renderTask_72 rfl (qv_callS C (rest := [qR 23 0]) (cb := 0) (sb := 0) (t_X7_at hl rfl (by decide) (by decide) a1 s8) mw_X7_at lk_X7_115 st_X7_at rfl (Nat.le_of_ble_eq_true rfl) (by decide) dX7_renderTask_73 rfl (qkI (fun r2 s9 => (qv_callVN C (rest := []) (cb := 0) (sb := 0) (t_X3_writeNumber hl r2 s9) mw_X3_writeNumber lk_X7_275 in_X3_writeNumber se_X3_writeNumber rfl (by decide) (by decide) rfl rfl (Nat.le_of_ble_eq_true rfl) (by decide) dX7_renderTask_76 rfl (qkV (fun s10 => (qv_aload_n C dX7_renderTask_79 rfl (qv_getR C (j2 := 0) fl_X7_46 cl_X7 rfl (by decide) (by decide) (by decide) rfl rfl dX7_renderTask_80 (qv_bipush C (v := (114 : Int32)) dX7_renderTask_83 (by decide) (qv_callVN C (rest := []) (cb := 0) (sb := 0) (t_X3_write hl (114 : Int32) s10) mw_X3_write lk_X7_278 in_X3_write se_X3_write rfl (by decide) (by decide) rfl rfl (Nat.le_of_ble_eq_true rfl) (by decide) dX7_renderTask_85 rfl (qkV (fun s11 => (qv_aload_n C dX7_renderTask_88 rfl (qv_getR C (j2 := 0) fl_X7_46 cl_X7 rfl (by decide) (by decide) (by decide) rfl rfl dX7_renderTask_89 (qv_aload_n C dX7_renderTask_92 rfl (qv_getR C (j2 := 0) fl_X7_12 cl_X7 rfl (by decide) (by decide) (by decide) rfl rfl dX7_renderTask_93 (qv_getR C (j2 := 0) fl_X7_152 cl_X5 rfl (by decide) (by decide) (by decide) rfl rfl dX7_renderTask_96 (qv_iload_n C dX7_renderTask_99 rfl (qv_callS C (rest := [qR 23 0]) (cb := 0) (sb := 0) (t_X7_at hl rfl (by decide) (by decide) a1 s11) mw_X7_at lk_X7_115 st_X7_at rfl (Nat.le_of_ble_eq_true rfl) (by decide) dX7_renderTask_100 rfl (qkI (fun r3 s12 => (qv_callVN C (rest := []) (cb := 0) (sb := 0) (t_X3_writeNumber hl r3 s12) mw_X3_writeNumber lk_X7_275 in_X3_writeNumber se_X3_writeNumber rfl (by decide) (by decide) rfl rfl (Nat.le_of_ble_eq_true rfl) (by decide) dX7_renderTask_103 rfl (qkV (fun s13 => (qv_aload_n C dX7_renderTask_106 rfl (qv_getR C (j2 := 0) fl_X7_46 cl_X7 rfl (by decide) (by decide) (by decide) rfl rfl dX7_renderTask_107 (qv_bipush C (v := (64 : Int32)) dX7_renderTask_110 (by decide) (qv_callVN C (rest := []) (cb := 0) (sb := 0) (t_X3_write hl (64 : Int32) s13) mw_X3_write lk_X7_278 in_X3_write se_X3_write rfl (by decide) (by decide) rfl rfl (Nat.le_of_ble_eq_true rfl) (by decide) dX7_renderTask_112 rfl (qkV (fun s14 => (qv_aload_n C dX7_renderTask_115 rfl (qv_getR C (j2 := 0) fl_X7_46 cl_X7 rfl (by decide) (by decide) (by decide) rfl rfl dX7_renderTask_116 (qv_aload_n C dX7_renderTask_119 rfl (qv_getR C (j2 := 0) fl_X7_139 cl_X4 rfl (by decide) (by decide) (by decide) rfl rfl dX7_renderTask_120 (qv_iload_n C dX7_renderTask_123 rfl (qv_callS C (rest := [qR 23 0]) (cb := 0) (sb := 0) (t_X7_at hl rfl (by decide) (by decide) a1 s14) mw_X7_at lk_X7_115 st_X7_at rfl (Nat.le_of_ble_eq_true rfl) (by decide) dX7_renderTask_124 rfl (qkI (fun r4 s15 => (qv_callVN C (rest := []) (cb := 0) (sb := 0) (t_X3_writeNumber hl r4 s15) mw_X3_writeNumber lk_X7_275 in_X3_writeNumber se_X3_writeNumber rfl (by decide) (by decide) rfl rfl (Nat.le_of_ble_eq_true rfl) (by decide) dX7_renderTask_127 rfl (qkV (fun s16 => (qv_aload_n C dX7_renderTask_130 rfl (qv_iload_n C dX7_renderTask_131 rfl (qv_callVN C (rest := []) (cb := 0) (sb := 0) (t_X4_slackOf hl a1 s16) mw_X4_slackOf lk_X7_202 in_X4_slackOf se_X4_slackOf rfl (by decide) (by decide) rfl rfl (Nat.le_of_ble_eq_true rfl) (by decide) dX7_renderTask_132 rfl (qkI (fun r5 s17 => (qv_if_ne C (tgt := 147) dX7_renderTask_135 (by decide) (fun _ => (qv_aload_n C dX7_renderTask_138 rfl (qv_getR C (j2 := 0) fl_X7_46 cl_X7 rfl (by decide) (by decide) (by decide) rfl rfl dX7_renderTask_139 (qv_bipush C (v := (33 : Int32)) dX7_renderTask_142 (by decide) (qv_callVN C (rest := []) (cb := 0) (sb := 0) (t_X3_write hl (33 : Int32) s17) mw_X3_write lk_X7_278 in_X3_write se_X3_write rfl (by decide) (by decide) rfl rfl (Nat.le_of_ble_eq_true rfl) (by decide) dX7_renderTask_144 rfl (qkV (fun s18 => (qv_iconst C (v := (0 : Int32)) dX7_renderTask_147 (by decide) (qv_istore_n C dX7_renderTask_148 (by decide) rfl (qV.weak [true, true, false, true] (lt_X7_renderTask_149 hl C hret ht  qFU a1 (0 : Int32) s18)))))))))))
  (fun _ => (qv_iconst C (v := (0 : Int32)) dX7_renderTask_147 (by decide) (qv_istore_n C dX7_renderTask_148 (by decide) rfl (qV.weak [true, true, false, true] (lt_X7_renderTask_149 hl C hret ht  qFU a1 (0 : Int32) s17)))))))))))))))))))))))))))))))))))))))))))))))))))))))))))))))))))))))))))))))))))))))))))))))))))))))
