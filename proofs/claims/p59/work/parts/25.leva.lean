/-! the class, a (printed by wip/whole/gen) -/
def f_X7_taskCount  (s0 : qS) : Option qO :=
  (some (.inl (some (qI (s0 1 0 7))), s0))
set_option maxRecDepth 100000 in
set_option maxHeartbeats 4000000 in
theorem t_X7_taskCount {g : qG} {l : Launch} (hl : l.stackTraces = false)  (s0 : qS) : qM g l 1 0 0 (.code yX7_taskCount cX7_taskCount 1 (some .int)) yX7_taskCount [qR 0 0] s0 (f_X7_taskCount  s0) := by
  refine qM_of (by decide +kernel) hl (List.forall_mem_cons.mpr ⟨rfl, (fun _ h => absurd h List.not_mem_nil)⟩) (Nat.le_of_ble_eq_true rfl) ?_
  intro p e s m args below meth c C hret ht
  show qV p l e _ s m args below meth c g _ _ _ _ _ 0 [some (qR 0 0)] [] s0
  exact (qv_aload_n C dX7_taskCount_0 rfl (qv_getR C (j2 := 0) fl_X7_12 cl_X7 rfl (by decide) (by decide) (by decide) rfl rfl dX7_taskCount_1 (qv_getI C fl_X7_88 cl_X5 rfl (by decide) (by decide) (by decide) rfl dX7_taskCount_4 (qv_iret C hret dX7_taskCount_7))))
def f_X7_hasBaseline  (s0 : qS) : Option qO :=
  (if qbo (s0 1 0 8) then some (.inl (some (qI (s0 1 0 8))), s0) else none)
set_option maxRecDepth 100000 in
set_option maxHeartbeats 4000000 in
theorem t_X7_hasBaseline {g : qG} {l : Launch} (hl : l.stackTraces = false)  (s0 : qS) : qM g l 1 0 0 (.code yX7_hasBaseline cX7_hasBaseline 1 (some .boolean)) yX7_hasBaseline [qR 0 0] s0 (f_X7_hasBaseline  s0) := by
  refine qM_of (by decide +kernel) hl (List.forall_mem_cons.mpr ⟨rfl, (fun _ h => absurd h List.not_mem_nil)⟩) (Nat.le_of_ble_eq_true rfl) ?_
  intro p e s m args below meth c C hret ht
  show qV p l e _ s m args below meth c g _ _ _ _ _ 0 [some (qR 0 0)] [] s0
  exact (qv_aload_n C dX7_hasBaseline_0 rfl (qv_getR C (j2 := 0) fl_X7_12 cl_X7 rfl (by decide) (by decide) (by decide) rfl rfl dX7_hasBaseline_1 (qv_getI C fl_X7_231 cl_X5 rfl (by decide) (by decide) (by decide) rfl dX7_hasBaseline_4 (qv_bret C hret dX7_hasBaseline_7))))
def f_X7_outputAt (a1 : Int32) (s0 : qS) : Option qO :=
  qbind (f_X7_isWithin a1 (0 : Int32) ((s0 23 0 1) - (1 : Int32)) s0) (qvI (fun r1 s1 =>
  (if r1 = 0 then (some (.inr qIOE, s1)) else
  qbind (f_X7_charAt 24 0 a1 s1) (qvI (fun r2 s2 =>
  (if qch r2 then some (.inl (some (qI r2)), s2) else none))) qE0))) qE0
set_option maxRecDepth 100000 in
set_option maxHeartbeats 4000000 in
theorem t_X7_outputAt {g : qG} {l : Launch} (hl : l.stackTraces = false) (a1 : Int32) (s0 : qS) : qM g l 2 1 6 (.code yX7_outputAt cX7_outputAt 2 (some .char)) yX7_outputAt [qR 0 0, qI a1] s0 (f_X7_outputAt a1 s0) := by
  refine qM_of (by decide +kernel) hl (List.forall_mem_cons.mpr ⟨rfl, (List.forall_mem_cons.mpr ⟨rfl, (fun _ h => absurd h List.not_mem_nil)⟩)⟩) (Nat.le_of_ble_eq_true rfl) ?_
  intro p e s m args below meth c C hret ht
  show qV p l e _ s m args below meth c g _ _ _ _ _ 0 [some (qR 0 0), some (qI a1)] [] s0
  exact (qv_iload_n C dX7_outputAt_0 rfl (qv_iconst C (v := (0 : Int32)) dX7_outputAt_1 (by decide) (qv_aload_n C dX7_outputAt_2 rfl (qv_getR C (j2 := 0) fl_X7_46 cl_X7 rfl (by decide) (by decide) (by decide) rfl rfl dX7_outputAt_3 (qv_getI C fl_X7_281 cl_X3 rfl (by decide) (by decide) (by decide) rfl dX7_outputAt_6 (qv_iconst C (v := (1 : Int32)) dX7_outputAt_9 (by decide) (qv_isub C dX7_outputAt_10 (qv_callS C (rest := []) (cb := 1) (sb := 6) (t_X7_isWithin hl a1 (0 : Int32) ((s0 23 0 1) - (1 : Int32)) s0) mw_X7_isWithin lk_X7_179 st_X7_isWithin rfl (Nat.le_of_ble_eq_true rfl) (by decide) dX7_outputAt_11 rfl (qkI (fun r1 s1 => (qv_if_ne C (tgt := 28) dX7_outputAt_14 (by decide) (fun _ => (qv_throwW C (text := "no such character") thr_284_288 (by decide) ht (Nat.le_of_ble_eq_true rfl) (by decide) dX7_outputAt_17 dX7_outputAt_20 dX7_outputAt_21 dX7_outputAt_24 dX7_outputAt_27))
  (fun _ => (qV.less (cb' := 0) (sb' := 0) (qv_aload_n C dX7_outputAt_28 rfl (qv_getR C (j2 := 0) fl_X7_46 cl_X7 rfl (by decide) (by decide) (by decide) rfl rfl dX7_outputAt_29 (qv_getR C (j2 := 0) fl_X7_289 cl_X3 rfl (by decide) (by decide) (by decide) rfl rfl dX7_outputAt_32 (qv_iload_n C dX7_outputAt_35 rfl (qv_callS C (rest := []) (cb := 0) (sb := 0) (t_X7_charAt hl rfl (by decide) (by decide) a1 s1) mw_X7_charAt lk_X7_293 st_X7_charAt rfl (Nat.le_of_ble_eq_true rfl) (by decide) dX7_outputAt_36 rfl (qkI (fun r2 s2 => (qv_cret C hret dX7_outputAt_39)))))))) (by decide) (by decide))))))))))))))
def f_X7_beginChange  (s0 : qS) : Option qO :=
  qbind (f_X2_keep 0 s0) (qvV (fun s1 =>
  qlet (qu s1 0 0 8 (0 : Int32)) (fun s2 =>
  (some (.inl none, s2))))) qE0
set_option maxRecDepth 100000 in
set_option maxHeartbeats 4000000 in
theorem t_X7_beginChange {g : qG} {l : Launch} (hl : l.stackTraces = false)  (s0 : qS) : qM g l 4 0 0 (.code yX7_beginChange cX7_beginChange 1 none) yX7_beginChange [qR 0 0] s0 (f_X7_beginChange  s0) := by
  refine qM_of (by decide +kernel) hl (List.forall_mem_cons.mpr ⟨rfl, (fun _ h => absurd h List.not_mem_nil)⟩) (Nat.le_of_ble_eq_true rfl) ?_
  intro p e s m args below meth c C hret ht
  show qV p l e _ s m args below meth c g _ _ _ _ _ 0 [some (qR 0 0)] [] s0
  exact (qv_aload_n C dX7_beginChange_0 rfl (qv_getR C (j2 := 0) fl_X7_25 cl_X7 rfl (by decide) (by decide) (by decide) rfl rfl dX7_beginChange_1 (qv_aload_n C dX7_beginChange_4 rfl (qv_getR C (j2 := 0) fl_X7_12 cl_X7 rfl (by decide) (by decide) (by decide) rfl rfl dX7_beginChange_5 (qv_callVN C (rest := []) (cb := 0) (sb := 0) (t_X2_keep hl (show 0 < 11 from (by decide)) s0) mw_X2_keep lk_X7_351 in_X2_keep se_X2_keep rfl (by decide) (by decide) rfl rfl (Nat.le_of_ble_eq_true rfl) (by decide) dX7_beginChange_8 rfl (qkV (fun s1 => (qv_aload_n C dX7_beginChange_11 rfl (qv_iconst C (v := (0 : Int32)) dX7_beginChange_12 (by decide) (qv_putI C fl_X7_342 cl_X7 rfl (by decide) (by decide) (by decide) rfl rfl rfl (qbo_nar (by decide)) (qbo_fits (by decide)) dX7_beginChange_13 (qv_let (fun s2 => (qv_vret C hret dX7_beginChange_16)))))))))))))
def f_X7_currentPlan  (s0 : qS) : Option qO :=
  (if (s0 0 0 8) = 0 then qbind (f_X4_make 0 s0) (qvV (fun s1 =>
  qlet (qu s1 0 0 8 (1 : Int32)) (fun s2 =>
  (some (.inl (some (qR 11 0)), s2))))) qE0 else
  (some (.inl (some (qR 11 0)), s0)))
set_option maxRecDepth 100000 in
set_option maxHeartbeats 4000000 in
theorem t_X7_currentPlan {g : qG} {l : Launch} (hl : l.stackTraces = false)  (s0 : qS) : qM g l 23 0 0 (.code yX7_currentPlan cX7_currentPlan 1 (some (.object "TaskLeveller$Plan"))) yX7_currentPlan [qR 0 0] s0 (f_X7_currentPlan  s0) := by
  refine qM_of (by decide +kernel) hl (List.forall_mem_cons.mpr ⟨rfl, (fun _ h => absurd h List.not_mem_nil)⟩) (Nat.le_of_ble_eq_true rfl) ?_
  intro p e s m args below meth c C hret ht
  show qV p l e _ s m args below meth c g _ _ _ _ _ 0 [some (qR 0 0)] [] s0
  exact (qv_aload_n C dX7_currentPlan_0 rfl (qv_getI C fl_X7_342 cl_X7 rfl (by decide) (by decide) (by decide) rfl dX7_currentPlan_1 (qv_if_ne C (tgt := 23) dX7_currentPlan_4 (by decide) (fun _ => (qv_aload_n C dX7_currentPlan_7 rfl (qv_getR C (j2 := 0) fl_X7_32 cl_X7 rfl (by decide) (by decide) (by decide) rfl rfl dX7_currentPlan_8 (qv_aload_n C dX7_currentPlan_11 rfl (qv_getR C (j2 := 0) fl_X7_12 cl_X7 rfl (by decide) (by decide) (by decide) rfl rfl dX7_currentPlan_12 (qv_callVN C (rest := []) (cb := 0) (sb := 0) (t_X4_make hl (show 0 < 11 from (by decide)) s0) mw_X4_make lk_X7_354 in_X4_make se_X4_make rfl (by decide) (by decide) rfl rfl (Nat.le_of_ble_eq_true rfl) (by decide) dX7_currentPlan_15 rfl (qkV (fun s1 => (qv_aload_n C dX7_currentPlan_18 rfl (qv_iconst C (v := (1 : Int32)) dX7_currentPlan_19 (by decide) (qv_putI C fl_X7_342 cl_X7 rfl (by decide) (by decide) (by decide) rfl rfl rfl (qbo_nar (by decide)) (qbo_fits (by decide)) dX7_currentPlan_20 (qv_let (fun s2 => (qv_aload_n C dX7_currentPlan_23 rfl (qv_getR C (j2 := 0) fl_X7_32 cl_X7 rfl (by decide) (by decide) (by decide) rfl rfl dX7_currentPlan_24 (qv_aret C hret (Or.inr ⟨_, rfl⟩) dX7_currentPlan_27))))))))))))))))
  (fun _ => (qv_aload_n C dX7_currentPlan_23 rfl (qv_getR C (j2 := 0) fl_X7_32 cl_X7 rfl (by decide) (by decide) (by decide) rfl rfl dX7_currentPlan_24 (qv_aret C hret (Or.inr ⟨_, rfl⟩) dX7_currentPlan_27)))))))
def f_X7_isWorkedOn (a1 : Int32) (a2 : Int32) (s0 : qS) : Option qO :=
  qbind (f_X7_currentPlan  s0) (qvS 11 (fun s1 =>
  qbind (f_X7_at 17 0 a1 s1) (qvI (fun r1 s2 =>
  (if a2 < r1 then (some (.inl (some (qI (0 : Int32))), s2)) else
  qbind (f_X7_at 2 0 a1 s2) (qvI (fun r2 s3 =>
  (if (r1 + r2) ≤ a2 then (some (.inl (some (qI (0 : Int32))), s3)) else
  (some (.inl (some (qI (1 : Int32))), s3))))) qE0))) qE0)) qE0
set_option maxRecDepth 100000 in
set_option maxHeartbeats 4000000 in
theorem t_X7_isWorkedOn {g : qG} {l : Launch} (hl : l.stackTraces = false) (a1 : Int32) (a2 : Int32) (s0 : qS) : qM g l 24 0 0 (.code yX7_isWorkedOn cX7_isWorkedOn 4 (some .boolean)) yX7_isWorkedOn [qR 0 0, qI a1, qI a2] s0 (f_X7_isWorkedOn a1 a2 s0) := by
  refine qM_of (by decide +kernel) hl (List.forall_mem_cons.mpr ⟨rfl, (List.forall_mem_cons.mpr ⟨rfl, (List.forall_mem_cons.mpr ⟨rfl, (fun _ h => absurd h List.not_mem_nil)⟩)⟩)⟩) (Nat.le_of_ble_eq_true rfl) ?_
  intro p e s m args below meth c C hret ht
  show qV p l e _ s m args below meth c g _ _ _ _ _ 0 [some (qR 0 0), some (qI a1), some (qI a2), none] [] s0
  exact (qv_aload_n C dX7_isWorkedOn_0 rfl (qv_callV C (rest := []) (cb := 0) (sb := 0) (t_X7_currentPlan hl  s0) mw_X7_currentPlan lk_X7_135 in_X7_currentPlan se_X7_currentPlan rfl (by decide) (by decide) rfl rfl (Nat.le_of_ble_eq_true rfl) (by decide) dX7_isWorkedOn_1 rfl (qkOne (fun s1 => (qv_getR C (j2 := 0) fl_X7_139 cl_X4 rfl (by decide) (by decide) (by decide) rfl rfl dX7_isWorkedOn_4 (qv_iload_n C dX7_isWorkedOn_7 rfl (qv_callS C (rest := []) (cb := 0) (sb := 0) (t_X7_at hl rfl (by decide) (by decide) a1 s1) mw_X7_at lk_X7_115 st_X7_at rfl (Nat.le_of_ble_eq_true rfl) (by decide) dX7_isWorkedOn_8 rfl (qkI (fun r1 s2 => (qv_istore_n C dX7_isWorkedOn_11 (by decide) rfl (qv_iload_n C dX7_isWorkedOn_12 rfl (qv_iload_n C dX7_isWorkedOn_13 rfl (qv_icmp_lt C (tgt := 38) dX7_isWorkedOn_14 (by decide) (fun _ => (qv_iconst C (v := (0 : Int32)) dX7_isWorkedOn_38 (by decide) (qv_zret! C hret (qbo_nar (by decide)) dX7_isWorkedOn_39)))
  (fun _ => (qv_iload_n C dX7_isWorkedOn_17 rfl (qv_iload_n C dX7_isWorkedOn_18 rfl (qv_aload_n C dX7_isWorkedOn_19 rfl (qv_getR C (j2 := 0) fl_X7_12 cl_X7 rfl (by decide) (by decide) (by decide) rfl rfl dX7_isWorkedOn_20 (qv_getR C (j2 := 0) fl_X7_112 cl_X5 rfl (by decide) (by decide) (by decide) rfl rfl dX7_isWorkedOn_23 (qv_iload_n C dX7_isWorkedOn_26 rfl (qv_callS C (rest := [qI r1, qI a2]) (cb := 0) (sb := 0) (t_X7_at hl rfl (by decide) (by decide) a1 s2) mw_X7_at lk_X7_115 st_X7_at rfl (Nat.le_of_ble_eq_true rfl) (by decide) dX7_isWorkedOn_27 rfl (qkI (fun r2 s3 => (qv_iadd C dX7_isWorkedOn_30 (qv_icmp_ge C (tgt := 38) dX7_isWorkedOn_31 (by decide) (fun _ => (qv_iconst C (v := (0 : Int32)) dX7_isWorkedOn_38 (by decide) (qv_zret! C hret (qbo_nar (by decide)) dX7_isWorkedOn_39)))
  (fun _ => (qv_iconst C (v := (1 : Int32)) dX7_isWorkedOn_34 (by decide) (qv_goto C (tgt := 39) dX7_isWorkedOn_35 (by decide) (qv_zret! C hret (qbo_nar (by decide)) dX7_isWorkedOn_39)))))))))))))))))))))))))))))
def f_X7_driftOf (a1 : Int32) (s0 : qS) : Option qO :=
  qbind (f_X7_currentPlan  s0) (qvS 11 (fun s1 =>
  qbind (f_X7_at 17 0 a1 s1) (qvI (fun r1 s2 =>
  qbind (f_X7_at 7 0 a1 s2) (qvI (fun r2 s3 =>
  (some (.inl (some (qI (r1 - r2))), s3)))) qE0)) qE0)) qE0
set_option maxRecDepth 100000 in
set_option maxHeartbeats 4000000 in
theorem t_X7_driftOf {g : qG} {l : Launch} (hl : l.stackTraces = false) (a1 : Int32) (s0 : qS) : qM g l 24 0 0 (.code yX7_driftOf cX7_driftOf 2 (some .int)) yX7_driftOf [qR 0 0, qI a1] s0 (f_X7_driftOf a1 s0) := by
  refine qM_of (by decide +kernel) hl (List.forall_mem_cons.mpr ⟨rfl, (List.forall_mem_cons.mpr ⟨rfl, (fun _ h => absurd h List.not_mem_nil)⟩)⟩) (Nat.le_of_ble_eq_true rfl) ?_
  intro p e s m args below meth c C hret ht
  show qV p l e _ s m args below meth c g _ _ _ _ _ 0 [some (qR 0 0), some (qI a1)] [] s0
  exact (qv_aload_n C dX7_driftOf_0 rfl (qv_callV C (rest := []) (cb := 0) (sb := 0) (t_X7_currentPlan hl  s0) mw_X7_currentPlan lk_X7_135 in_X7_currentPlan se_X7_currentPlan rfl (by decide) (by decide) rfl rfl (Nat.le_of_ble_eq_true rfl) (by decide) dX7_driftOf_1 rfl (qkOne (fun s1 => (qv_getR C (j2 := 0) fl_X7_139 cl_X4 rfl (by decide) (by decide) (by decide) rfl rfl dX7_driftOf_4 (qv_iload_n C dX7_driftOf_7 rfl (qv_callS C (rest := []) (cb := 0) (sb := 0) (t_X7_at hl rfl (by decide) (by decide) a1 s1) mw_X7_at lk_X7_115 st_X7_at rfl (Nat.le_of_ble_eq_true rfl) (by decide) dX7_driftOf_8 rfl (qkI (fun r1 s2 => (qv_aload_n C dX7_driftOf_11 rfl (qv_getR C (j2 := 0) fl_X7_12 cl_X7 rfl (by decide) (by decide) (by decide) rfl rfl dX7_driftOf_12 (qv_getR C (j2 := 0) fl_X7_238 cl_X5 rfl (by decide) (by decide) (by decide) rfl rfl dX7_driftOf_15 (qv_iload_n C dX7_driftOf_18 rfl (qv_callS C (rest := [qI r1]) (cb := 0) (sb := 0) (t_X7_at hl rfl (by decide) (by decide) a1 s2) mw_X7_at lk_X7_115 st_X7_at rfl (Nat.le_of_ble_eq_true rfl) (by decide) dX7_driftOf_19 rfl (qkI (fun r2 s3 => (qv_isub C dX7_driftOf_22 (qv_iret C hret dX7_driftOf_23))))))))))))))))))
def b_X7_countBefore_14 (rk14 : Int32 → Int32 → Int32 → Int32 → qS → Option qO) (v1 : Int32) (v2 : Int32) (v3 : Int32) (v4 : Int32) (s0 : qS) : Option qO :=
  (if (s0 1 0 7) ≤ v4 then (some (.inl (some (qI v3)), s0)) else
  qbind (f_X7_at 25 0 v4 s0) (qvI (fun r2 s2 =>
  (if r2 < v2 then rk14 v1 v2 (v3 + (1 : Int32)) (v4 + (1 : Int32)) s2 else
  (if r2 = v2 then (if v1 ≤ v4 then rk14 v1 v2 v3 (v4 + (1 : Int32)) s2 else
  rk14 v1 v2 (v3 + (1 : Int32)) (v4 + (1 : Int32)) s2) else
  rk14 v1 v2 v3 (v4 + (1 : Int32)) s2)))) qE0)
def l_X7_countBefore_14 : Nat → Int32 → Int32 → Int32 → Int32 → qS → Option qO
  | 0, _, _, _, _, _ => none
  | n + 1, v1, v2, v3, v4, s0 => b_X7_countBefore_14  (l_X7_countBefore_14  n) v1 v2 v3 v4 s0
set_option maxRecDepth 100000 in
set_option maxHeartbeats 4000000 in
theorem bt_X7_countBefore_14 {p : Program} {l : Launch} {e : Env} {s : State} {m : MethodId} {args : Array Value} {below : List Frame} {meth : Method} {c : Code} {g : qG} (hl : l.stackTraces = false) (C : qC p l s m meth c cX7_countBefore 6 RX7 g) (hret : meth.sig.returnType = (some .int)) (ht : ∀ x ∈ c.exceptionTable.toList, False)  (rk14 : Int32 → Int32 → Int32 → Int32 → qS → Option qO) (hrk14 : ∀ (v1 : Int32) (v2 : Int32) (v3 : Int32) (v4 : Int32) (s0 : qS), qV p l e (qrm 2 0 0) s m args below meth c g 6 (qQf g below args s (qrm 2 0 0)) (rk14 v1 v2 v3 v4 s0) 0 0 14 [some (qR 0 0), some (qI v1), some (qI v2), some (qI v3), some (qI v4), none] [] s0) (v1 : Int32) (v2 : Int32) (v3 : Int32) (v4 : Int32) (s0 : qS) : qV p l e (qrm 2 0 0) s m args below meth c g 6 (qQf g below args s (qrm 2 0 0)) (b_X7_countBefore_14  rk14 v1 v2 v3 v4 s0) 0 0 14 [some (qR 0 0), some (qI v1), some (qI v2), some (qI v3), some (qI v4), none] [] s0 :=
  (qv_iload C dX7_countBefore_14 rfl (qv_aload_n C dX7_countBefore_16 rfl (qv_getR C (j2 := 0) fl_X7_12 cl_X7 rfl (by decide) (by decide) (by decide) rfl rfl dX7_countBefore_17 (qv_getI C fl_X7_88 cl_X5 rfl (by decide) (by decide) (by decide) rfl dX7_countBefore_20 (qv_icmp_ge C (tgt := 64) dX7_countBefore_23 (by decide) (fun _ => (qv_iload_n C dX7_countBefore_64 rfl (qv_iret C hret dX7_countBefore_65)))
  (fun _ => (qv_aload_n C dX7_countBefore_26 rfl (qv_getR C (j2 := 0) fl_X7_50 cl_X7 rfl (by decide) (by decide) (by decide) rfl rfl dX7_countBefore_27 (qv_iload C dX7_countBefore_30 rfl (qv_callS C (rest := []) (cb := 0) (sb := 0) (t_X7_at hl rfl (by decide) (by decide) v4 s0) mw_X7_at lk_X7_115 st_X7_at rfl (Nat.le_of_ble_eq_true rfl) (by decide) dX7_countBefore_32 rfl (qkI (fun r2 s2 => (qv_istore C dX7_countBefore_35 (by decide) rfl (qv_iload C dX7_countBefore_37 rfl (qv_iload_n C dX7_countBefore_39 rfl (qv_icmp_lt C (tgt := 55) dX7_countBefore_40 (by decide) (fun _ => (qv_iinc C (v := (v3 + (1 : Int32))) dX7_countBefore_55 rfl rfl (by decide) rfl (qv_iinc C (v := (v4 + (1 : Int32))) dX7_countBefore_58 rfl rfl (by decide) rfl (qv_goto C (tgt := 14) dX7_countBefore_61 (by decide) (qV.weak [true, true, true, true, true, false] (hrk14 v1 v2 (v3 + (1 : Int32)) (v4 + (1 : Int32)) s2))))))
  (fun _ => (qv_iload C dX7_countBefore_43 rfl (qv_iload_n C dX7_countBefore_45 rfl (qv_icmp_ne C (tgt := 58) dX7_countBefore_46 (by decide) (fun _ => (qv_iload C dX7_countBefore_49 rfl (qv_iload_n C dX7_countBefore_51 rfl (qv_icmp_ge C (tgt := 58) dX7_countBefore_52 (by decide) (fun _ => (qv_iinc C (v := (v4 + (1 : Int32))) dX7_countBefore_58 rfl rfl (by decide) rfl (qv_goto C (tgt := 14) dX7_countBefore_61 (by decide) (qV.weak [true, true, true, true, true, false] (hrk14 v1 v2 v3 (v4 + (1 : Int32)) s2)))))
  (fun _ => (qv_iinc C (v := (v3 + (1 : Int32))) dX7_countBefore_55 rfl rfl (by decide) rfl (qv_iinc C (v := (v4 + (1 : Int32))) dX7_countBefore_58 rfl rfl (by decide) rfl (qv_goto C (tgt := 14) dX7_countBefore_61 (by decide) (qV.weak [true, true, true, true, true, false] (hrk14 v1 v2 (v3 + (1 : Int32)) (v4 + (1 : Int32)) s2))))))))))
  (fun _ => (qv_iinc C (v := (v4 + (1 : Int32))) dX7_countBefore_58 rfl rfl (by decide) rfl (qv_goto C (tgt := 14) dX7_countBefore_61 (by decide) (qV.weak [true, true, true, true, true, false] (hrk14 v1 v2 v3 (v4 + (1 : Int32)) s2)))))))))))))))))))))))))
theorem lt_X7_countBefore_14 {p : Program} {l : Launch} {e : Env} {s : State} {m : MethodId} {args : Array Value} {below : List Frame} {meth : Method} {c : Code} {g : qG} (hl : l.stackTraces = false) (C : qC p l s m meth c cX7_countBefore 6 RX7 g) (hret : meth.sig.returnType = (some .int)) (ht : ∀ x ∈ c.exceptionTable.toList, False)  : ∀ (n : Nat) (v1 : Int32) (v2 : Int32) (v3 : Int32) (v4 : Int32) (s0 : qS), qV p l e (qrm 2 0 0) s m args below meth c g 6 (qQf g below args s (qrm 2 0 0)) (l_X7_countBefore_14  n v1 v2 v3 v4 s0) 0 0 14 [some (qR 0 0), some (qI v1), some (qI v2), some (qI v3), some (qI v4), none] [] s0
  | 0, _, _, _, _, _ => qV.no
  | n + 1, v1, v2, v3, v4, s0 => bt_X7_countBefore_14 hl C hret ht  _ (lt_X7_countBefore_14 hl C hret ht  n) v1 v2 v3 v4 s0
def f_X7_countBefore (a1 : Int32) (s0 : qS) : Option qO :=
  qbind (f_X7_at 25 0 a1 s0) (qvI (fun r1 s1 =>
  l_X7_countBefore_14  qFU a1 r1 (0 : Int32) (0 : Int32) s1)) qE0
set_option maxRecDepth 100000 in
set_option maxHeartbeats 4000000 in
theorem t_X7_countBefore {g : qG} {l : Launch} (hl : l.stackTraces = false) (a1 : Int32) (s0 : qS) : qM g l 2 0 0 (.code yX7_countBefore cX7_countBefore 6 (some .int)) yX7_countBefore [qR 0 0, qI a1] s0 (f_X7_countBefore a1 s0) := by
  refine qM_of (by decide +kernel) hl (List.forall_mem_cons.mpr ⟨rfl, (List.forall_mem_cons.mpr ⟨rfl, (fun _ h => absurd h List.not_mem_nil)⟩)⟩) (Nat.le_of_ble_eq_true rfl) ?_
  intro p e s m args below meth c C hret ht
  show qV p l e _ s m args below meth c g _ _ _ _ _ 0 [some (qR 0 0), some (qI a1), none, none, none, none] [] s0
  exact (qv_aload_n C dX7_countBefore_0 rfl (qv_getR C (j2 := 0) fl_X7_50 cl_X7 rfl (by decide) (by decide) (by decide) rfl rfl dX7_countBefore_1 (qv_iload_n C dX7_countBefore_4 rfl (qv_callS C (rest := []) (cb := 0) (sb := 0) (t_X7_at hl rfl (by decide) (by decide) a1 s0) mw_X7_at lk_X7_115 st_X7_at rfl (Nat.le_of_ble_eq_true rfl) (by decide) dX7_countBefore_5 rfl (qkI (fun r1 s1 => (qv_istore_n C dX7_countBefore_8 (by decide) rfl (qv_iconst C (v := (0 : Int32)) dX7_countBefore_9 (by decide) (qv_istore_n C dX7_countBefore_10 (by decide) rfl (qv_iconst C (v := (0 : Int32)) dX7_countBefore_11 (by decide) (qv_istore C dX7_countBefore_12 (by decide) rfl (qV.weak [true, true, true, true, true, false] (lt_X7_countBefore_14 hl C hret ht  qFU a1 r1 (0 : Int32) (0 : Int32) s1)))))))))))))
def b_X7_startsAgree_7 (rk7 : Int32 → qS → Option qO) (v2 : Int32) (s0 : qS) : Option qO :=
  (if (s0 1 0 7) ≤ v2 then (some (.inl (some (qI (1 : Int32))), s0)) else
  qbind (f_X7_at 14 0 v2 s0) (qvI (fun r1 s2 =>
  qbind (f_X7_at 15 0 v2 s2) (qvI (fun r2 s3 =>
  (if r1 = r2 then qbind (f_X7_at 17 0 v2 s3) (qvI (fun r3 s4 =>
  (if r1 ≤ r3 then rk7 (v2 + (1 : Int32)) s4 else
  (some (.inl (some (qI (0 : Int32))), s4))))) qE0 else
  (some (.inl (some (qI (0 : Int32))), s3))))) qE0)) qE0)
def l_X7_startsAgree_7 : Nat → Int32 → qS → Option qO
  | 0, _, _ => none
  | n + 1, v2, s0 => b_X7_startsAgree_7  (l_X7_startsAgree_7  n) v2 s0
set_option maxRecDepth 100000 in
set_option maxHeartbeats 4000000 in
theorem bt_X7_startsAgree_7 {p : Program} {l : Launch} {e : Env} {s : State} {m : MethodId} {args : Array Value} {below : List Frame} {meth : Method} {c : Code} {g : qG} (hl : l.stackTraces = false) (C : qC p l s m meth c cX7_startsAgree 4 RX7 g) (hret : meth.sig.returnType = (some .boolean)) (ht : ∀ x ∈ c.exceptionTable.toList, False)  (rk7 : Int32 → qS → Option qO) (hrk7 : ∀ (v2 : Int32) (s0 : qS), qV p l e (qrm 24 0 0) s m args below meth c g 4 (qQf g below args s (qrm 24 0 0)) (rk7 v2 s0) 0 0 7 [some (qR 0 0), some (qR 11 0), some (qI v2), none] [] s0) (v2 : Int32) (s0 : qS) : qV p l e (qrm 24 0 0) s m args below meth c g 4 (qQf g below args s (qrm 24 0 0)) (b_X7_startsAgree_7  rk7 v2 s0) 0 0 7 [some (qR 0 0), some (qR 11 0), some (qI v2), none] [] s0 :=
  (qv_iload_n C dX7_startsAgree_7 rfl (qv_aload_n C dX7_startsAgree_8 rfl (qv_getR C (j2 := 0) fl_X7_12 cl_X7 rfl (by decide) (by decide) (by decide) rfl rfl dX7_startsAgree_9 (qv_getI C fl_X7_88 cl_X5 rfl (by decide) (by decide) (by decide) rfl dX7_startsAgree_12 (qv_icmp_ge C (tgt := 59) dX7_startsAgree_15 (by decide) (fun _ => (qv_iconst C (v := (1 : Int32)) dX7_startsAgree_59 (by decide) (qv_zret! C hret (qbo_nar (by decide)) dX7_startsAgree_60)))
  (fun _ => (qv_aload_n C dX7_startsAgree_18 rfl (qv_getR C (j2 := 0) fl_X7_193 cl_X4 rfl (by decide) (by decide) (by decide) rfl rfl dX7_startsAgree_19 (qv_iload_n C dX7_startsAgree_22 rfl (qv_callS C (rest := []) (cb := 0) (sb := 0) (t_X7_at hl rfl (by decide) (by decide) v2 s0) mw_X7_at lk_X7_115 st_X7_at rfl (Nat.le_of_ble_eq_true rfl) (by decide) dX7_startsAgree_23 rfl (qkI (fun r1 s2 => (qv_istore_n C dX7_startsAgree_26 (by decide) rfl (qv_iload_n C dX7_startsAgree_27 rfl (qv_aload_n C dX7_startsAgree_28 rfl (qv_getR C (j2 := 0) fl_X7_196 cl_X4 rfl (by decide) (by decide) (by decide) rfl rfl dX7_startsAgree_29 (qv_iload_n C dX7_startsAgree_32 rfl (qv_callS C (rest := [qI r1]) (cb := 0) (sb := 0) (t_X7_at hl rfl (by decide) (by decide) v2 s2) mw_X7_at lk_X7_115 st_X7_at rfl (Nat.le_of_ble_eq_true rfl) (by decide) dX7_startsAgree_33 rfl (qkI (fun r2 s3 => (qv_icmp_ne C (tgt := 51) dX7_startsAgree_36 (by decide) (fun _ => (qv_aload_n C dX7_startsAgree_39 rfl (qv_getR C (j2 := 0) fl_X7_139 cl_X4 rfl (by decide) (by decide) (by decide) rfl rfl dX7_startsAgree_40 (qv_iload_n C dX7_startsAgree_43 rfl (qv_callS C (rest := []) (cb := 0) (sb := 0) (t_X7_at hl rfl (by decide) (by decide) v2 s3) mw_X7_at lk_X7_115 st_X7_at rfl (Nat.le_of_ble_eq_true rfl) (by decide) dX7_startsAgree_44 rfl (qkI (fun r3 s4 => (qv_iload_n C dX7_startsAgree_47 rfl (qv_icmp_ge C (tgt := 53) dX7_startsAgree_48 (by decide) (fun _ => (qv_iinc C (v := (v2 + (1 : Int32))) dX7_startsAgree_53 rfl rfl (by decide) rfl (qv_goto C (tgt := 7) dX7_startsAgree_56 (by decide) (qV.weak [true, true, true, false] (hrk7 (v2 + (1 : Int32)) s4)))))
  (fun _ => (qv_iconst C (v := (0 : Int32)) dX7_startsAgree_51 (by decide) (qv_zret! C hret (qbo_nar (by decide)) dX7_startsAgree_52))))))))))))
  (fun _ => (qv_iconst C (v := (0 : Int32)) dX7_startsAgree_51 (by decide) (qv_zret! C hret (qbo_nar (by decide)) dX7_startsAgree_52))))))))))))))))))))))))
theorem lt_X7_startsAgree_7 {p : Program} {l : Launch} {e : Env} {s : State} {m : MethodId} {args : Array Value} {below : List Frame} {meth : Method} {c : Code} {g : qG} (hl : l.stackTraces = false) (C : qC p l s m meth c cX7_startsAgree 4 RX7 g) (hret : meth.sig.returnType = (some .boolean)) (ht : ∀ x ∈ c.exceptionTable.toList, False)  : ∀ (n : Nat) (v2 : Int32) (s0 : qS), qV p l e (qrm 24 0 0) s m args below meth c g 4 (qQf g below args s (qrm 24 0 0)) (l_X7_startsAgree_7  n v2 s0) 0 0 7 [some (qR 0 0), some (qR 11 0), some (qI v2), none] [] s0
  | 0, _, _ => qV.no
  | n + 1, v2, s0 => bt_X7_startsAgree_7 hl C hret ht  _ (lt_X7_startsAgree_7 hl C hret ht  n) v2 s0
def f_X7_startsAgree  (s0 : qS) : Option qO :=
  qbind (f_X7_currentPlan  s0) (qvS 11 (fun s1 =>
  l_X7_startsAgree_7  qFU (0 : Int32) s1)) qE0
set_option maxRecDepth 100000 in
set_option maxHeartbeats 4000000 in
theorem t_X7_startsAgree {g : qG} {l : Launch} (hl : l.stackTraces = false)  (s0 : qS) : qM g l 24 0 0 (.code yX7_startsAgree cX7_startsAgree 4 (some .boolean)) yX7_startsAgree [qR 0 0] s0 (f_X7_startsAgree  s0) := by
  refine qM_of (by decide +kernel) hl (List.forall_mem_cons.mpr ⟨rfl, (fun _ h => absurd h List.not_mem_nil)⟩) (Nat.le_of_ble_eq_true rfl) ?_
  intro p e s m args below meth c C hret ht
  show qV p l e _ s m args below meth c g _ _ _ _ _ 0 [some (qR 0 0), none, none, none] [] s0
  exact (qv_aload_n C dX7_startsAgree_0 rfl (qv_callV C (rest := []) (cb := 0) (sb := 0) (t_X7_currentPlan hl  s0) mw_X7_currentPlan lk_X7_135 in_X7_currentPlan se_X7_currentPlan rfl (by decide) (by decide) rfl rfl (Nat.le_of_ble_eq_true rfl) (by decide) dX7_startsAgree_1 rfl (qkOne (fun s1 => (qv_astore_n C dX7_startsAgree_4 (by decide) rfl (qv_iconst C (v := (0 : Int32)) dX7_startsAgree_5 (by decide) (qv_istore_n C dX7_startsAgree_6 (by decide) rfl (qV.weak [true, true, true, false] (lt_X7_startsAgree_7 hl C hret ht  qFU (0 : Int32) s1)))))))))
def b_X7_dependenciesAgree_30 (rk7 : Int32 → qS → Option qO) (rk30 : Int32 → Int32 → Int32 → qS → Option qO) (v2 : Int32) (v3 : Int32) (v4 : Int32) (s0 : qS) : Option qO :=
  (if (s0 1 0 7) ≤ v4 then rk7 (v2 + (1 : Int32)) s0 else
  qbind (f_X7_hasBit v3 v4 s0) (qvI (fun r2 s3 =>
  qbind (f_X5_reaches 0 v2 v4 s3) (qvI (fun r3 s4 =>
  (if r2 = r3 then rk30 v2 v3 (v4 + (1 : Int32)) s4 else
  (some (.inl (some (qI (0 : Int32))), s4))))) qE0)) qE0)
def l_X7_dependenciesAgree_30 (rk7 : Int32 → qS → Option qO) : Nat → Int32 → Int32 → Int32 → qS → Option qO
  | 0, _, _, _, _ => none
  | n + 1, v2, v3, v4, s0 => b_X7_dependenciesAgree_30  rk7 (l_X7_dependenciesAgree_30  rk7 n) v2 v3 v4 s0
set_option maxRecDepth 100000 in
set_option maxHeartbeats 4000000 in
theorem bt_X7_dependenciesAgree_30 {p : Program} {l : Launch} {e : Env} {s : State} {m : MethodId} {args : Array Value} {below : List Frame} {meth : Method} {c : Code} {g : qG} (hl : l.stackTraces = false) (C : qC p l s m meth c cX7_dependenciesAgree 5 RX7 g) (hret : meth.sig.returnType = (some .boolean)) (ht : ∀ x ∈ c.exceptionTable.toList, False)  (rk7 : Int32 → qS → Option qO) (hrk7 : ∀ (v2 : Int32) (s0 : qS), qV p l e (qrm 24 0 0) s m args below meth c g 5 (qQf g below args s (qrm 24 0 0)) (rk7 v2 s0) 0 0 7 [some (qR 0 0), some (qR 11 0), some (qI v2), none, none] [] s0) (rk30 : Int32 → Int32 → Int32 → qS → Option qO) (hrk30 : ∀ (v2 : Int32) (v3 : Int32) (v4 : Int32) (s0 : qS), qV p l e (qrm 24 0 0) s m args below meth c g 5 (qQf g below args s (qrm 24 0 0)) (rk30 v2 v3 v4 s0) 0 0 30 [some (qR 0 0), some (qR 11 0), some (qI v2), some (qI v3), some (qI v4)] [] s0) (v2 : Int32) (v3 : Int32) (v4 : Int32) (s0 : qS) : qV p l e (qrm 24 0 0) s m args below meth c g 5 (qQf g below args s (qrm 24 0 0)) (b_X7_dependenciesAgree_30  rk7 rk30 v2 v3 v4 s0) 0 0 30 [some (qR 0 0), some (qR 11 0), some (qI v2), some (qI v3), some (qI v4)] [] s0 :=
  (qv_iload C dX7_dependenciesAgree_30 rfl (qv_aload_n C dX7_dependenciesAgree_32 rfl (qv_getR C (j2 := 0) fl_X7_12 cl_X7 rfl (by decide) (by decide) (by decide) rfl rfl dX7_dependenciesAgree_33 (qv_getI C fl_X7_88 cl_X5 rfl (by decide) (by decide) (by decide) rfl dX7_dependenciesAgree_36 (qv_icmp_ge C (tgt := 69) dX7_dependenciesAgree_39 (by decide) (fun _ => (qv_iinc C (v := (v2 + (1 : Int32))) dX7_dependenciesAgree_69 rfl rfl (by decide) rfl (qv_goto C (tgt := 7) dX7_dependenciesAgree_72 (by decide) (qV.weak [true, true, true, false, false] (hrk7 (v2 + (1 : Int32)) s0)))))
  (fun _ => (qv_iload_n C dX7_dependenciesAgree_42 rfl (qv_iload C dX7_dependenciesAgree_43 rfl (qv_callS C (rest := []) (cb := 0) (sb := 0) (t_X7_hasBit hl v3 v4 s0) mw_X7_hasBit lk_X7_167 st_X7_hasBit rfl (Nat.le_of_ble_eq_true rfl) (by decide) dX7_dependenciesAgree_45 rfl (qkI (fun r2 s3 => (qv_aload_n C dX7_dependenciesAgree_48 rfl (qv_getR C (j2 := 0) fl_X7_12 cl_X7 rfl (by decide) (by decide) (by decide) rfl rfl dX7_dependenciesAgree_49 (qv_iload_n C dX7_dependenciesAgree_52 rfl (qv_iload C dX7_dependenciesAgree_53 rfl (qv_callVN C (rest := [qI r2]) (cb := 0) (sb := 0) (t_X5_reaches hl (show 0 < 11 from (by decide)) v2 v4 s3) mw_X5_reaches lk_X7_161 in_X5_reaches se_X5_reaches rfl (by decide) (by decide) rfl rfl (Nat.le_of_ble_eq_true rfl) (by decide) dX7_dependenciesAgree_55 rfl (qkI (fun r3 s4 => (qv_icmp_eq C (tgt := 63) dX7_dependenciesAgree_58 (by decide) (fun _ => (qv_iinc C (v := (v4 + (1 : Int32))) dX7_dependenciesAgree_63 rfl rfl (by decide) rfl (qv_goto C (tgt := 30) dX7_dependenciesAgree_66 (by decide) (qV.weak [true, true, true, true, true] (hrk30 v2 v3 (v4 + (1 : Int32)) s4)))))
  (fun _ => (qv_iconst C (v := (0 : Int32)) dX7_dependenciesAgree_61 (by decide) (qv_zret! C hret (qbo_nar (by decide)) dX7_dependenciesAgree_62))))))))))))))))))))))
theorem lt_X7_dependenciesAgree_30 {p : Program} {l : Launch} {e : Env} {s : State} {m : MethodId} {args : Array Value} {below : List Frame} {meth : Method} {c : Code} {g : qG} (hl : l.stackTraces = false) (C : qC p l s m meth c cX7_dependenciesAgree 5 RX7 g) (hret : meth.sig.returnType = (some .boolean)) (ht : ∀ x ∈ c.exceptionTable.toList, False)  (rk7 : Int32 → qS → Option qO) (hrk7 : ∀ (v2 : Int32) (s0 : qS), qV p l e (qrm 24 0 0) s m args below meth c g 5 (qQf g below args s (qrm 24 0 0)) (rk7 v2 s0) 0 0 7 [some (qR 0 0), some (qR 11 0), some (qI v2), none, none] [] s0) : ∀ (n : Nat) (v2 : Int32) (v3 : Int32) (v4 : Int32) (s0 : qS), qV p l e (qrm 24 0 0) s m args below meth c g 5 (qQf g below args s (qrm 24 0 0)) (l_X7_dependenciesAgree_30  rk7 n v2 v3 v4 s0) 0 0 30 [some (qR 0 0), some (qR 11 0), some (qI v2), some (qI v3), some (qI v4)] [] s0
  | 0, _, _, _, _ => qV.no
  | n + 1, v2, v3, v4, s0 => bt_X7_dependenciesAgree_30 hl C hret ht  rk7 hrk7 _ (lt_X7_dependenciesAgree_30 hl C hret ht  rk7 hrk7 n) v2 v3 v4 s0
def b_X7_dependenciesAgree_7 (rk7 : Int32 → qS → Option qO) (v2 : Int32) (s0 : qS) : Option qO :=
  (if (s0 1 0 7) ≤ v2 then (some (.inl (some (qI (1 : Int32))), s0)) else
  qbind (f_X7_at 13 0 v2 s0) (qvI (fun r1 s2 =>
  l_X7_dependenciesAgree_30  rk7 qFU v2 r1 (0 : Int32) s2)) qE0)
def l_X7_dependenciesAgree_7 : Nat → Int32 → qS → Option qO
  | 0, _, _ => none
  | n + 1, v2, s0 => b_X7_dependenciesAgree_7  (l_X7_dependenciesAgree_7  n) v2 s0
set_option maxRecDepth 100000 in
set_option maxHeartbeats 4000000 in
theorem bt_X7_dependenciesAgree_7 {p : Program} {l : Launch} {e : Env} {s : State} {m : MethodId} {args : Array Value} {below : List Frame} {meth : Method} {c : Code} {g : qG} (hl : l.stackTraces = false) (C : qC p l s m meth c cX7_dependenciesAgree 5 RX7 g) (hret : meth.sig.returnType = (some .boolean)) (ht : ∀ x ∈ c.exceptionTable.toList, False)  (rk7 : Int32 → qS → Option qO) (hrk7 : ∀ (v2 : Int32) (s0 : qS), qV p l e (qrm 24 0 0) s m args below meth c g 5 (qQf g below args s (qrm 24 0 0)) (rk7 v2 s0) 0 0 7 [some (qR 0 0), some (qR 11 0), some (qI v2), none, none] [] s0) (v2 : Int32) (s0 : qS) : qV p l e (qrm 24 0 0) s m args below meth c g 5 (qQf g below args s (qrm 24 0 0)) (b_X7_dependenciesAgree_7  rk7 v2 s0) 0 0 7 [some (qR 0 0), some (qR 11 0), some (qI v2), none, none] [] s0 :=
  (qv_iload_n C dX7_dependenciesAgree_7 rfl (qv_aload_n C dX7_dependenciesAgree_8 rfl (qv_getR C (j2 := 0) fl_X7_12 cl_X7 rfl (by decide) (by decide) (by decide) rfl rfl dX7_dependenciesAgree_9 (qv_getI C fl_X7_88 cl_X5 rfl (by decide) (by decide) (by decide) rfl dX7_dependenciesAgree_12 (qv_icmp_ge C (tgt := 75) dX7_dependenciesAgree_15 (by decide) (fun _ => (qv_iconst C (v := (1 : Int32)) dX7_dependenciesAgree_75 (by decide) (qv_zret! C hret (qbo_nar (by decide)) dX7_dependenciesAgree_76)))
  (fun _ => (qv_aload_n C dX7_dependenciesAgree_18 rfl (qv_getR C (j2 := 0) fl_X7_164 cl_X4 rfl (by decide) (by decide) (by decide) rfl rfl dX7_dependenciesAgree_19 (qv_iload_n C dX7_dependenciesAgree_22 rfl (qv_callS C (rest := []) (cb := 0) (sb := 0) (t_X7_at hl rfl (by decide) (by decide) v2 s0) mw_X7_at lk_X7_115 st_X7_at rfl (Nat.le_of_ble_eq_true rfl) (by decide) dX7_dependenciesAgree_23 rfl (qkI (fun r1 s2 => (qv_istore_n C dX7_dependenciesAgree_26 (by decide) rfl (qv_iconst C (v := (0 : Int32)) dX7_dependenciesAgree_27 (by decide) (qv_istore C dX7_dependenciesAgree_28 (by decide) rfl (qV.weak [true, true, true, true, true] (lt_X7_dependenciesAgree_30 hl C hret ht  rk7 hrk7 qFU v2 r1 (0 : Int32) s2)))))))))))))))))
theorem lt_X7_dependenciesAgree_7 {p : Program} {l : Launch} {e : Env} {s : State} {m : MethodId} {args : Array Value} {below : List Frame} {meth : Method} {c : Code} {g : qG} (hl : l.stackTraces = false) (C : qC p l s m meth c cX7_dependenciesAgree 5 RX7 g) (hret : meth.sig.returnType = (some .boolean)) (ht : ∀ x ∈ c.exceptionTable.toList, False)  : ∀ (n : Nat) (v2 : Int32) (s0 : qS), qV p l e (qrm 24 0 0) s m args below meth c g 5 (qQf g below args s (qrm 24 0 0)) (l_X7_dependenciesAgree_7  n v2 s0) 0 0 7 [some (qR 0 0), some (qR 11 0), some (qI v2), none, none] [] s0
  | 0, _, _ => qV.no
  | n + 1, v2, s0 => bt_X7_dependenciesAgree_7 hl C hret ht  _ (lt_X7_dependenciesAgree_7 hl C hret ht  n) v2 s0
def f_X7_dependenciesAgree  (s0 : qS) : Option qO :=
  qbind (f_X7_currentPlan  s0) (qvS 11 (fun s1 =>
  l_X7_dependenciesAgree_7  qFU (0 : Int32) s1)) qE0
set_option maxRecDepth 100000 in
set_option maxHeartbeats 4000000 in
theorem t_X7_dependenciesAgree {g : qG} {l : Launch} (hl : l.stackTraces = false)  (s0 : qS) : qM g l 24 0 0 (.code yX7_dependenciesAgree cX7_dependenciesAgree 5 (some .boolean)) yX7_dependenciesAgree [qR 0 0] s0 (f_X7_dependenciesAgree  s0) := by
  refine qM_of (by decide +kernel) hl (List.forall_mem_cons.mpr ⟨rfl, (fun _ h => absurd h List.not_mem_nil)⟩) (Nat.le_of_ble_eq_true rfl) ?_
  intro p e s m args below meth c C hret ht
  show qV p l e _ s m args below meth c g _ _ _ _ _ 0 [some (qR 0 0), none, none, none, none] [] s0
  exact (qv_aload_n C dX7_dependenciesAgree_0 rfl (qv_callV C (rest := []) (cb := 0) (sb := 0) (t_X7_currentPlan hl  s0) mw_X7_currentPlan lk_X7_135 in_X7_currentPlan se_X7_currentPlan rfl (by decide) (by decide) rfl rfl (Nat.le_of_ble_eq_true rfl) (by decide) dX7_dependenciesAgree_1 rfl (qkOne (fun s1 => (qv_astore_n C dX7_dependenciesAgree_4 (by decide) rfl (qv_iconst C (v := (0 : Int32)) dX7_dependenciesAgree_5 (by decide) (qv_istore_n C dX7_dependenciesAgree_6 (by decide) rfl (qV.weak [true, true, true, false, false] (lt_X7_dependenciesAgree_7 hl C hret ht  qFU (0 : Int32) s1)))))))))
def b_X7_workloadsAgree_7 (rk7 : Int32 → qS → Option qO) (v2 : Int32) (s0 : qS) : Option qO :=
  (if (3 : Int32) ≤ v2 then (some (.inl (some (qI (1 : Int32))), s0)) else
  qbind (f_X5_workOf 0 v2 s0) (qvI (fun r1 s2 =>
  qbind (f_X4_workOnAllDays v2 s2) (qvI (fun r2 s3 =>
  (if r1 = r2 then rk7 (v2 + (1 : Int32)) s3 else
  (some (.inl (some (qI (0 : Int32))), s3))))) qE0)) qE0)
def l_X7_workloadsAgree_7 : Nat → Int32 → qS → Option qO
  | 0, _, _ => none
  | n + 1, v2, s0 => b_X7_workloadsAgree_7  (l_X7_workloadsAgree_7  n) v2 s0
set_option maxRecDepth 100000 in
set_option maxHeartbeats 4000000 in
theorem bt_X7_workloadsAgree_7 {p : Program} {l : Launch} {e : Env} {s : State} {m : MethodId} {args : Array Value} {below : List Frame} {meth : Method} {c : Code} {g : qG} (hl : l.stackTraces = false) (C : qC p l s m meth c cX7_workloadsAgree 3 RX7 g) (hret : meth.sig.returnType = (some .boolean)) (ht : ∀ x ∈ c.exceptionTable.toList, False)  (rk7 : Int32 → qS → Option qO) (hrk7 : ∀ (v2 : Int32) (s0 : qS), qV p l e (qrm 24 0 0) s m args below meth c g 3 (qQf g below args s (qrm 24 0 0)) (rk7 v2 s0) 0 0 7 [some (qR 0 0), some (qR 11 0), some (qI v2)] [] s0) (v2 : Int32) (s0 : qS) : qV p l e (qrm 24 0 0) s m args below meth c g 3 (qQf g below args s (qrm 24 0 0)) (b_X7_workloadsAgree_7  rk7 v2 s0) 0 0 7 [some (qR 0 0), some (qR 11 0), some (qI v2)] [] s0 :=
  (qv_iload_n C dX7_workloadsAgree_7 rfl (qv_iconst C (v := (3 : Int32)) dX7_workloadsAgree_8 (by decide) (qv_icmp_ge C (tgt := 36) dX7_workloadsAgree_9 (by decide) (fun _ => (qv_iconst C (v := (1 : Int32)) dX7_workloadsAgree_36 (by decide) (qv_zret! C hret (qbo_nar (by decide)) dX7_workloadsAgree_37)))
  (fun _ => (qv_aload_n C dX7_workloadsAgree_12 rfl (qv_getR C (j2 := 0) fl_X7_12 cl_X7 rfl (by decide) (by decide) (by decide) rfl rfl dX7_workloadsAgree_13 (qv_iload_n C dX7_workloadsAgree_16 rfl (qv_callVN C (rest := []) (cb := 0) (sb := 0) (t_X5_workOf hl (show 0 < 11 from (by decide)) v2 s0) mw_X5_workOf lk_X7_225 in_X5_workOf se_X5_workOf rfl (by decide) (by decide) rfl rfl (Nat.le_of_ble_eq_true rfl) (by decide) dX7_workloadsAgree_17 rfl (qkI (fun r1 s2 => (qv_aload_n C dX7_workloadsAgree_20 rfl (qv_iload_n C dX7_workloadsAgree_21 rfl (qv_callVN C (rest := [qI r1]) (cb := 0) (sb := 0) (t_X4_workOnAllDays hl v2 s2) mw_X4_workOnAllDays lk_X7_228 in_X4_workOnAllDays se_X4_workOnAllDays rfl (by decide) (by decide) rfl rfl (Nat.le_of_ble_eq_true rfl) (by decide) dX7_workloadsAgree_22 rfl (qkI (fun r2 s3 => (qv_icmp_eq C (tgt := 30) dX7_workloadsAgree_25 (by decide) (fun _ => (qv_iinc C (v := (v2 + (1 : Int32))) dX7_workloadsAgree_30 rfl rfl (by decide) rfl (qv_goto C (tgt := 7) dX7_workloadsAgree_33 (by decide) (qV.weak [true, true, true] (hrk7 (v2 + (1 : Int32)) s3)))))
  (fun _ => (qv_iconst C (v := (0 : Int32)) dX7_workloadsAgree_28 (by decide) (qv_zret! C hret (qbo_nar (by decide)) dX7_workloadsAgree_29)))))))))))))))))))
theorem lt_X7_workloadsAgree_7 {p : Program} {l : Launch} {e : Env} {s : State} {m : MethodId} {args : Array Value} {below : List Frame} {meth : Method} {c : Code} {g : qG} (hl : l.stackTraces = false) (C : qC p l s m meth c cX7_workloadsAgree 3 RX7 g) (hret : meth.sig.returnType = (some .boolean)) (ht : ∀ x ∈ c.exceptionTable.toList, False)  : ∀ (n : Nat) (v2 : Int32) (s0 : qS), qV p l e (qrm 24 0 0) s m args below meth c g 3 (qQf g below args s (qrm 24 0 0)) (l_X7_workloadsAgree_7  n v2 s0) 0 0 7 [some (qR 0 0), some (qR 11 0), some (qI v2)] [] s0
  | 0, _, _ => qV.no
  | n + 1, v2, s0 => bt_X7_workloadsAgree_7 hl C hret ht  _ (lt_X7_workloadsAgree_7 hl C hret ht  n) v2 s0
def f_X7_workloadsAgree  (s0 : qS) : Option qO :=
  qbind (f_X7_currentPlan  s0) (qvS 11 (fun s1 =>
  l_X7_workloadsAgree_7  qFU (0 : Int32) s1)) qE0
set_option maxRecDepth 100000 in
set_option maxHeartbeats 4000000 in
theorem t_X7_workloadsAgree {g : qG} {l : Launch} (hl : l.stackTraces = false)  (s0 : qS) : qM g l 24 0 0 (.code yX7_workloadsAgree cX7_workloadsAgree 3 (some .boolean)) yX7_workloadsAgree [qR 0 0] s0 (f_X7_workloadsAgree  s0) := by
  refine qM_of (by decide +kernel) hl (List.forall_mem_cons.mpr ⟨rfl, (fun _ h => absurd h List.not_mem_nil)⟩) (Nat.le_of_ble_eq_true rfl) ?_
  intro p e s m args below meth c C hret ht
  show qV p l e _ s m args below meth c g _ _ _ _ _ 0 [some (qR 0 0), none, none] [] s0
  exact (qv_aload_n C dX7_workloadsAgree_0 rfl (qv_callV C (rest := []) (cb := 0) (sb := 0) (t_X7_currentPlan hl  s0) mw_X7_currentPlan lk_X7_135 in_X7_currentPlan se_X7_currentPlan rfl (by decide) (by decide) rfl rfl (Nat.le_of_ble_eq_true rfl) (by decide) dX7_workloadsAgree_1 rfl (qkOne (fun s1 => (qv_astore_n C dX7_workloadsAgree_4 (by decide) rfl (qv_iconst C (v := (0 : Int32)) dX7_workloadsAgree_5 (by decide) (qv_istore_n C dX7_workloadsAgree_6 (by decide) rfl (qV.weak [true, true, true] (lt_X7_workloadsAgree_7 hl C hret ht  qFU (0 : Int32) s1)))))))))
def f_X7_requireResource (a1 : Int32) (s0 : qS) : Option qO :=
  qbind (f_X7_isWithin a1 (0 : Int32) (2 : Int32) s0) (qvI (fun r1 s1 =>
  (if r1 = 0 then (some (.inr qIAE, s1)) else
  (some (.inl none, s1))))) qE0
set_option maxRecDepth 100000 in
set_option maxHeartbeats 4000000 in
theorem t_X7_requireResource {g : qG} {l : Launch} (hl : l.stackTraces = false) (a1 : Int32) (s0 : qS) : qM g l 2 1 6 (.code yX7_requireResource cX7_requireResource 1 none) yX7_requireResource [qI a1] s0 (f_X7_requireResource a1 s0) := by
  refine qM_of (by decide +kernel) hl (List.forall_mem_cons.mpr ⟨rfl, (fun _ h => absurd h List.not_mem_nil)⟩) (Nat.le_of_ble_eq_true rfl) ?_
  intro p e s m args below meth c C hret ht
  show qV p l e _ s m args below meth c g _ _ _ _ _ 0 [some (qI a1)] [] s0
  exact (qv_iload_n C dX7_requireResource_0 rfl (qv_iconst C (v := (0 : Int32)) dX7_requireResource_1 (by decide) (qv_iconst C (v := (2 : Int32)) dX7_requireResource_2 (by decide) (qv_callS C (rest := []) (cb := 1) (sb := 6) (t_X7_isWithin hl a1 (0 : Int32) (2 : Int32) s0) mw_X7_isWithin lk_X7_179 st_X7_isWithin rfl (Nat.le_of_ble_eq_true rfl) (by decide) dX7_requireResource_3 rfl (qkI (fun r1 s1 => (qv_if_ne C (tgt := 20) dX7_requireResource_6 (by decide) (fun _ => (qv_throwW C (text := "no such resource") thr_297_301 (by decide) ht (Nat.le_of_ble_eq_true rfl) (by decide) dX7_requireResource_9 dX7_requireResource_12 dX7_requireResource_13 dX7_requireResource_16 dX7_requireResource_19))
  (fun _ => (qV.less (cb' := 0) (sb' := 0) (qv_vret C hret dX7_requireResource_20) (by decide) (by decide))))))))))
def f_X7_requireDay (a1 : Int32) (s0 : qS) : Option qO :=
  (if 0 ≤ a1 then (some (.inl none, s0)) else
  (some (.inr qIAE, s0)))
set_option maxRecDepth 100000 in
set_option maxHeartbeats 4000000 in
theorem t_X7_requireDay {g : qG} {l : Launch} (hl : l.stackTraces = false) (a1 : Int32) (s0 : qS) : qM g l 1 1 6 (.code yX7_requireDay cX7_requireDay 1 none) yX7_requireDay [qI a1] s0 (f_X7_requireDay a1 s0) := by
  refine qM_of (by decide +kernel) hl (List.forall_mem_cons.mpr ⟨rfl, (fun _ h => absurd h List.not_mem_nil)⟩) (Nat.le_of_ble_eq_true rfl) ?_
  intro p e s m args below meth c C hret ht
  show qV p l e _ s m args below meth c g _ _ _ _ _ 0 [some (qI a1)] [] s0
  exact (qv_iload_n C dX7_requireDay_0 rfl (qv_if_ge C (tgt := 15) dX7_requireDay_1 (by decide) (fun _ => (qV.less (cb' := 0) (sb' := 0) (qv_vret C hret dX7_requireDay_15) (by decide) (by decide)))
  (fun _ => (qv_throwW C (text := "the day is negative") thr_297_301 (by decide) ht (Nat.le_of_ble_eq_true rfl) (by decide) dX7_requireDay_4 dX7_requireDay_7 dX7_requireDay_8 dX7_requireDay_11 dX7_requireDay_14))))
def f_X7_requireBaselineStart (a1 : Int32) (s0 : qS) : Option qO :=
  qbind (f_X5_hasStart 0 a1 s0) (qvI (fun r1 s1 =>
  (if r1 = 0 then (some (.inr qNSE, s1)) else
  (some (.inl none, s1))))) qE0
set_option maxRecDepth 100000 in
set_option maxHeartbeats 4000000 in
theorem t_X7_requireBaselineStart {g : qG} {l : Launch} (hl : l.stackTraces = false) (a1 : Int32) (s0 : qS) : qM g l 3 1 6 (.code yX7_requireBaselineStart cX7_requireBaselineStart 2 none) yX7_requireBaselineStart [qR 0 0, qI a1] s0 (f_X7_requireBaselineStart a1 s0) := by
  refine qM_of (by decide +kernel) hl (List.forall_mem_cons.mpr ⟨rfl, (List.forall_mem_cons.mpr ⟨rfl, (fun _ h => absurd h List.not_mem_nil)⟩)⟩) (Nat.le_of_ble_eq_true rfl) ?_
  intro p e s m args below meth c C hret ht
  show qV p l e _ s m args below meth c g _ _ _ _ _ 0 [some (qR 0 0), some (qI a1)] [] s0
  exact (qv_aload_n C dX7_requireBaselineStart_0 rfl (qv_getR C (j2 := 0) fl_X7_12 cl_X7 rfl (by decide) (by decide) (by decide) rfl rfl dX7_requireBaselineStart_1 (qv_iload_n C dX7_requireBaselineStart_4 rfl (qv_callVN C (rest := []) (cb := 1) (sb := 6) (t_X5_hasStart hl (show 0 < 11 from (by decide)) a1 s0) mw_X5_hasStart lk_X7_246 in_X5_hasStart se_X5_hasStart rfl (by decide) (by decide) rfl rfl (Nat.le_of_ble_eq_true rfl) (by decide) dX7_requireBaselineStart_5 rfl (qkI (fun r1 s1 => (qv_if_ne C (tgt := 22) dX7_requireBaselineStart_8 (by decide) (fun _ => (qv_throwXW C (text := "the task has no baseline start") (by decide) ht (Nat.le_of_ble_eq_true rfl) (by decide) dX7_requireBaselineStart_11 dX7_requireBaselineStart_14 dX7_requireBaselineStart_15 dX7_requireBaselineStart_18 dX7_requireBaselineStart_21))
  (fun _ => (qV.less (cb' := 0) (sb' := 0) (qv_vret C hret dX7_requireBaselineStart_22) (by decide) (by decide))))))))))
def f_X7_refuse (a1 : Int32) (s0 : qS) : Option qO :=
  (if a1 = (105 : Int32) then (some (.inr qIOE, s0)) else
  (if a1 = (97 : Int32) then (some (.inr qIAE, s0)) else
  (if a1 = (115 : Int32) then (some (.inr qISE, s0)) else
  (if a1 = (117 : Int32) then (some (.inr qUOE, s0)) else
  (some (.inl none, s0))))))
set_option maxRecDepth 100000 in
set_option maxHeartbeats 4000000 in
theorem t_X7_refuse {g : qG} {l : Launch} (hl : l.stackTraces = false) (a1 : Int32) (s0 : qS) : qM g l 1 1 6 (.code yX7_refuse cX7_refuse 1 none) yX7_refuse [qI a1] s0 (f_X7_refuse a1 s0) := by
  refine qM_of (by decide +kernel) hl (List.forall_mem_cons.mpr ⟨rfl, (fun _ h => absurd h List.not_mem_nil)⟩) (Nat.le_of_ble_eq_true rfl) ?_
  intro p e s m args below meth c C hret ht
  show qV p l e _ s m args below meth c g _ _ _ _ _ 0 [some (qI a1)] [] s0
  exact (qv_iload_n C dX7_refuse_0 rfl (qv_bipush C (v := (105 : Int32)) dX7_refuse_1 (by decide) (qv_icmp_ne C (tgt := 17) dX7_refuse_3 (by decide) (fun _ => (qv_throwW C (text := "no such task") thr_284_288 (by decide) ht (Nat.le_of_ble_eq_true rfl) (by decide) dX7_refuse_6 dX7_refuse_9 dX7_refuse_10 dX7_refuse_13 dX7_refuse_16))
  (fun _ => (qv_iload_n C dX7_refuse_17 rfl (qv_bipush C (v := (97 : Int32)) dX7_refuse_18 (by decide) (qv_icmp_ne C (tgt := 34) dX7_refuse_20 (by decide) (fun _ => (qv_throwW C (text := "an argument is out of its range") thr_297_301 (by decide) ht (Nat.le_of_ble_eq_true rfl) (by decide) dX7_refuse_23 dX7_refuse_26 dX7_refuse_27 dX7_refuse_30 dX7_refuse_33))
  (fun _ => (qv_iload_n C dX7_refuse_34 rfl (qv_bipush C (v := (115 : Int32)) dX7_refuse_35 (by decide) (qv_icmp_ne C (tgt := 51) dX7_refuse_37 (by decide) (fun _ => (qv_throwW C (text := "there is no room for another task") thr_303_307 (by decide) ht (Nat.le_of_ble_eq_true rfl) (by decide) dX7_refuse_40 dX7_refuse_43 dX7_refuse_44 dX7_refuse_47 dX7_refuse_50))
  (fun _ => (qv_iload_n C dX7_refuse_51 rfl (qv_bipush C (v := (117 : Int32)) dX7_refuse_52 (by decide) (qv_icmp_ne C (tgt := 68) dX7_refuse_54 (by decide) (fun _ => (qv_throwW C (text := "a task would depend on itself") thr_404_408 (by decide) ht (Nat.le_of_ble_eq_true rfl) (by decide) dX7_refuse_57 dX7_refuse_60 dX7_refuse_61 dX7_refuse_64 dX7_refuse_67))
  (fun _ => (qV.less (cb' := 0) (sb' := 0) (qv_vret C hret dX7_refuse_68) (by decide) (by decide))))))))))))))))))
def f_X7_addTask (a1 : Int32) (a2 : Int32) (a3 : Int32) (a4 : Int32) (s0 : qS) : Option qO :=
  qbind (f_X5_faultOfAdding 0 a1 a2 a3 a4 s0) (qvI (fun r1 s1 =>
  qbind (f_X7_refuse r1 s1) (qvV (fun s2 =>
  qbind (f_X7_beginChange  s2) (qvV (fun s3 =>
  qbind (f_X5_append 0 a1 a2 a3 a4 s3) (qvI (fun r2 s4 =>
  (some (.inl (some (qI r2)), s4)))) qE0)) qE0)) qE1)) qE0
set_option maxRecDepth 100000 in
set_option maxHeartbeats 4000000 in
theorem t_X7_addTask {g : qG} {l : Launch} (hl : l.stackTraces = false) (a1 : Int32) (a2 : Int32) (a3 : Int32) (a4 : Int32) (s0 : qS) : qM g l 5 1 6 (.code yX7_addTask cX7_addTask 5 (some .int)) yX7_addTask [qR 0 0, qI a1, qI a2, qI a3, qI a4] s0 (f_X7_addTask a1 a2 a3 a4 s0) := by
  refine qM_of (by decide +kernel) hl (List.forall_mem_cons.mpr ⟨rfl, (List.forall_mem_cons.mpr ⟨rfl, (List.forall_mem_cons.mpr ⟨rfl, (List.forall_mem_cons.mpr ⟨rfl, (List.forall_mem_cons.mpr ⟨rfl, (fun _ h => absurd h List.not_mem_nil)⟩)⟩)⟩)⟩)⟩) (Nat.le_of_ble_eq_true rfl) ?_
  intro p e s m args below meth c C hret ht
  show qV p l e _ s m args below meth c g _ _ _ _ _ 0 [some (qR 0 0), some (qI a1), some (qI a2), some (qI a3), some (qI a4)] [] s0
  exact (qv_aload_n C dX7_addTask_0 rfl (qv_getR C (j2 := 0) fl_X7_12 cl_X7 rfl (by decide) (by decide) (by decide) rfl rfl dX7_addTask_1 (qv_iload_n C dX7_addTask_4 rfl (qv_iload_n C dX7_addTask_5 rfl (qv_iload_n C dX7_addTask_6 rfl (qv_iload C dX7_addTask_7 rfl (qv_callVN C (rest := []) (cb := 1) (sb := 6) (t_X5_faultOfAdding hl (show 0 < 11 from (by decide)) a1 a2 a3 a4 s0) mw_X5_faultOfAdding lk_X7_65 in_X5_faultOfAdding se_X5_faultOfAdding rfl (by decide) (by decide) rfl rfl (Nat.le_of_ble_eq_true rfl) (by decide) dX7_addTask_9 rfl (qkI (fun r1 s1 => (qt_callS C (rest := []) (cb := 0) (sb := 0) (t_X7_refuse hl r1 s1) mw_X7_refuse lk_X7_69 st_X7_refuse rfl (Nat.le_of_ble_eq_true rfl) (by decide) dX7_addTask_12 rfl ht (qkV (fun s2 => (qv_aload_n C dX7_addTask_15 rfl (qv_callV C (rest := []) (cb := 0) (sb := 0) (t_X7_beginChange hl  s2) mw_X7_beginChange lk_X7_73 in_X7_beginChange se_X7_beginChange rfl (by decide) (by decide) rfl rfl (Nat.le_of_ble_eq_true rfl) (by decide) dX7_addTask_16 rfl (qkV (fun s3 => (qv_aload_n C dX7_addTask_19 rfl (qv_getR C (j2 := 0) fl_X7_12 cl_X7 rfl (by decide) (by decide) (by decide) rfl rfl dX7_addTask_20 (qv_iload_n C dX7_addTask_23 rfl (qv_iload_n C dX7_addTask_24 rfl (qv_iload_n C dX7_addTask_25 rfl (qv_iload C dX7_addTask_26 rfl (qv_callVN C (rest := []) (cb := 0) (sb := 0) (t_X5_append hl (show 0 < 11 from (by decide)) a1 a2 a3 a4 s3) mw_X5_append lk_X7_76 in_X5_append se_X5_append rfl (by decide) (by decide) rfl rfl (Nat.le_of_ble_eq_true rfl) (by decide) dX7_addTask_28 rfl (qkI (fun r2 s4 => (qv_iret C hret dX7_addTask_31))))))))))))))))))))))))))
def f_X7_removeTask (a1 : Int32) (s0 : qS) : Option qO :=
  qbind (f_X5_faultOfTask 0 a1 s0) (qvI (fun r1 s1 =>
  qbind (f_X7_refuse r1 s1) (qvV (fun s2 =>
  qbind (f_X7_beginChange  s2) (qvV (fun s3 =>
  qbind (f_X5_drop 0 a1 s3) (qvV (fun s4 =>
  (some (.inl (some (qI (s4 1 0 7))), s4)))) qE0)) qE0)) qE1)) qE0
set_option maxRecDepth 100000 in
set_option maxHeartbeats 4000000 in
theorem t_X7_removeTask {g : qG} {l : Launch} (hl : l.stackTraces = false) (a1 : Int32) (s0 : qS) : qM g l 5 1 6 (.code yX7_removeTask cX7_removeTask 2 (some .int)) yX7_removeTask [qR 0 0, qI a1] s0 (f_X7_removeTask a1 s0) := by
  refine qM_of (by decide +kernel) hl (List.forall_mem_cons.mpr ⟨rfl, (List.forall_mem_cons.mpr ⟨rfl, (fun _ h => absurd h List.not_mem_nil)⟩)⟩) (Nat.le_of_ble_eq_true rfl) ?_
  intro p e s m args below meth c C hret ht
  show qV p l e _ s m args below meth c g _ _ _ _ _ 0 [some (qR 0 0), some (qI a1)] [] s0
  exact (qv_aload_n C dX7_removeTask_0 rfl (qv_getR C (j2 := 0) fl_X7_12 cl_X7 rfl (by decide) (by decide) (by decide) rfl rfl dX7_removeTask_1 (qv_iload_n C dX7_removeTask_4 rfl (qv_callVN C (rest := []) (cb := 1) (sb := 6) (t_X5_faultOfTask hl (show 0 < 11 from (by decide)) a1 s0) mw_X5_faultOfTask lk_X7_80 in_X5_faultOfTask se_X5_faultOfTask rfl (by decide) (by decide) rfl rfl (Nat.le_of_ble_eq_true rfl) (by decide) dX7_removeTask_5 rfl (qkI (fun r1 s1 => (qt_callS C (rest := []) (cb := 0) (sb := 0) (t_X7_refuse hl r1 s1) mw_X7_refuse lk_X7_69 st_X7_refuse rfl (Nat.le_of_ble_eq_true rfl) (by decide) dX7_removeTask_8 rfl ht (qkV (fun s2 => (qv_aload_n C dX7_removeTask_11 rfl (qv_callV C (rest := []) (cb := 0) (sb := 0) (t_X7_beginChange hl  s2) mw_X7_beginChange lk_X7_73 in_X7_beginChange se_X7_beginChange rfl (by decide) (by decide) rfl rfl (Nat.le_of_ble_eq_true rfl) (by decide) dX7_removeTask_12 rfl (qkV (fun s3 => (qv_aload_n C dX7_removeTask_15 rfl (qv_getR C (j2 := 0) fl_X7_12 cl_X7 rfl (by decide) (by decide) (by decide) rfl rfl dX7_removeTask_16 (qv_iload_n C dX7_removeTask_19 rfl (qv_callVN C (rest := []) (cb := 0) (sb := 0) (t_X5_drop hl (show 0 < 11 from (by decide)) a1 s3) mw_X5_drop lk_X7_84 in_X5_drop se_X5_drop rfl (by decide) (by decide) rfl rfl (Nat.le_of_ble_eq_true rfl) (by decide) dX7_removeTask_20 rfl (qkV (fun s4 => (qv_aload_n C dX7_removeTask_23 rfl (qv_getR C (j2 := 0) fl_X7_12 cl_X7 rfl (by decide) (by decide) (by decide) rfl rfl dX7_removeTask_24 (qv_getI C fl_X7_88 cl_X5 rfl (by decide) (by decide) (by decide) rfl dX7_removeTask_27 (qv_iret C hret dX7_removeTask_30)))))))))))))))))))))))
def f_X7_addDependency (a1 : Int32) (a2 : Int32) (s0 : qS) : Option qO :=
  qbind (f_X5_faultOfLinking 0 a1 a2 s0) (qvI (fun r1 s1 =>
  qbind (f_X7_refuse r1 s1) (qvV (fun s2 =>
  qbind (f_X7_beginChange  s2) (qvV (fun s3 =>
  qbind (f_X5_isLinked 0 a1 a2 s3) (qvI (fun r2 s4 =>
  (if r2 = 0 then qbind (f_X5_link 0 a1 a2 s4) (qvV (fun s5 =>
  (some (.inl (some (qI (1 : Int32))), s5)))) qE0 else
  qbind (f_X5_link 0 a1 a2 s4) (qvV (fun s6 =>
  (some (.inl (some (qI (0 : Int32))), s6)))) qE0))) qE0)) qE0)) qE1)) qE0
set_option maxRecDepth 100000 in
set_option maxHeartbeats 4000000 in
theorem t_X7_addDependency {g : qG} {l : Launch} (hl : l.stackTraces = false) (a1 : Int32) (a2 : Int32) (s0 : qS) : qM g l 23 1 6 (.code yX7_addDependency cX7_addDependency 4 (some .boolean)) yX7_addDependency [qR 0 0, qI a1, qI a2] s0 (f_X7_addDependency a1 a2 s0) := by
  refine qM_of (by decide +kernel) hl (List.forall_mem_cons.mpr ⟨rfl, (List.forall_mem_cons.mpr ⟨rfl, (List.forall_mem_cons.mpr ⟨rfl, (fun _ h => absurd h List.not_mem_nil)⟩)⟩)⟩) (Nat.le_of_ble_eq_true rfl) ?_
  intro p e s m args below meth c C hret ht
  show qV p l e _ s m args below meth c g _ _ _ _ _ 0 [some (qR 0 0), some (qI a1), some (qI a2), none] [] s0
  exact (qv_aload_n C dX7_addDependency_0 rfl (qv_getR C (j2 := 0) fl_X7_12 cl_X7 rfl (by decide) (by decide) (by decide) rfl rfl dX7_addDependency_1 (qv_iload_n C dX7_addDependency_4 rfl (qv_iload_n C dX7_addDependency_5 rfl (qv_callVN C (rest := []) (cb := 1) (sb := 6) (t_X5_faultOfLinking hl (show 0 < 11 from (by decide)) a1 a2 s0) mw_X5_faultOfLinking lk_X7_91 in_X5_faultOfLinking se_X5_faultOfLinking rfl (by decide) (by decide) rfl rfl (Nat.le_of_ble_eq_true rfl) (by decide) dX7_addDependency_6 rfl (qkI (fun r1 s1 => (qt_callS C (rest := []) (cb := 0) (sb := 0) (t_X7_refuse hl r1 s1) mw_X7_refuse lk_X7_69 st_X7_refuse rfl (Nat.le_of_ble_eq_true rfl) (by decide) dX7_addDependency_9 rfl ht (qkV (fun s2 => (qv_aload_n C dX7_addDependency_12 rfl (qv_callV C (rest := []) (cb := 0) (sb := 0) (t_X7_beginChange hl  s2) mw_X7_beginChange lk_X7_73 in_X7_beginChange se_X7_beginChange rfl (by decide) (by decide) rfl rfl (Nat.le_of_ble_eq_true rfl) (by decide) dX7_addDependency_13 rfl (qkV (fun s3 => (qv_aload_n C dX7_addDependency_16 rfl (qv_getR C (j2 := 0) fl_X7_12 cl_X7 rfl (by decide) (by decide) (by decide) rfl rfl dX7_addDependency_17 (qv_iload_n C dX7_addDependency_20 rfl (qv_iload_n C dX7_addDependency_21 rfl (qv_callVN C (rest := []) (cb := 0) (sb := 0) (t_X5_isLinked hl (show 0 < 11 from (by decide)) a1 a2 s3) mw_X5_isLinked lk_X7_95 in_X5_isLinked se_X5_isLinked rfl (by decide) (by decide) rfl rfl (Nat.le_of_ble_eq_true rfl) (by decide) dX7_addDependency_22 rfl (qkI (fun r2 s4 => (qv_if_ne C (tgt := 32) dX7_addDependency_25 (by decide) (fun _ => (qv_iconst C (v := (1 : Int32)) dX7_addDependency_28 (by decide) (qv_goto C (tgt := 33) dX7_addDependency_29 (by decide) (qv_istore_n C dX7_addDependency_33 (by decide) rfl (qv_aload_n C dX7_addDependency_34 rfl (qv_getR C (j2 := 0) fl_X7_12 cl_X7 rfl (by decide) (by decide) (by decide) rfl rfl dX7_addDependency_35 (qv_iload_n C dX7_addDependency_38 rfl (qv_iload_n C dX7_addDependency_39 rfl (qv_callVN C (rest := []) (cb := 0) (sb := 0) (t_X5_link hl (show 0 < 11 from (by decide)) a1 a2 s4) mw_X5_link lk_X7_99 in_X5_link se_X5_link rfl (by decide) (by decide) rfl rfl (Nat.le_of_ble_eq_true rfl) (by decide) dX7_addDependency_40 rfl (qkV (fun s5 => (qv_iload_n C dX7_addDependency_43 rfl (qv_zret! C hret (qbo_nar (by decide)) dX7_addDependency_44)))))))))))))
  (fun _ => (qv_iconst C (v := (0 : Int32)) dX7_addDependency_32 (by decide) (qv_istore_n C dX7_addDependency_33 (by decide) rfl (qv_aload_n C dX7_addDependency_34 rfl (qv_getR C (j2 := 0) fl_X7_12 cl_X7 rfl (by decide) (by decide) (by decide) rfl rfl dX7_addDependency_35 (qv_iload_n C dX7_addDependency_38 rfl (qv_iload_n C dX7_addDependency_39 rfl (qv_callVN C (rest := []) (cb := 0) (sb := 0) (t_X5_link hl (show 0 < 11 from (by decide)) a1 a2 s4) mw_X5_link lk_X7_99 in_X5_link se_X5_link rfl (by decide) (by decide) rfl rfl (Nat.le_of_ble_eq_true rfl) (by decide) dX7_addDependency_40 rfl (qkV (fun s6 => (qv_iload_n C dX7_addDependency_43 rfl (qv_zret! C hret (qbo_nar (by decide)) dX7_addDependency_44))))))))))))))))))))))))))))))))))
def f_X7_removeDependency (a1 : Int32) (a2 : Int32) (s0 : qS) : Option qO :=
  qbind (f_X5_faultOfPair 0 a1 a2 s0) (qvI (fun r1 s1 =>
  qbind (f_X7_refuse r1 s1) (qvV (fun s2 =>
  qbind (f_X7_beginChange  s2) (qvV (fun s3 =>
  qbind (f_X5_isLinked 0 a1 a2 s3) (qvI (fun r2 s4 =>
  qbind (f_X5_unlink 0 a1 a2 s4) (qvV (fun s5 =>
  (if qbo r2 then some (.inl (some (qI r2)), s5) else none))) qE0)) qE0)) qE0)) qE1)) qE0
set_option maxRecDepth 100000 in
set_option maxHeartbeats 4000000 in
theorem t_X7_removeDependency {g : qG} {l : Launch} (hl : l.stackTraces = false) (a1 : Int32) (a2 : Int32) (s0 : qS) : qM g l 5 1 6 (.code yX7_removeDependency cX7_removeDependency 4 (some .boolean)) yX7_removeDependency [qR 0 0, qI a1, qI a2] s0 (f_X7_removeDependency a1 a2 s0) := by
  refine qM_of (by decide +kernel) hl (List.forall_mem_cons.mpr ⟨rfl, (List.forall_mem_cons.mpr ⟨rfl, (List.forall_mem_cons.mpr ⟨rfl, (fun _ h => absurd h List.not_mem_nil)⟩)⟩)⟩) (Nat.le_of_ble_eq_true rfl) ?_
  intro p e s m args below meth c C hret ht
  show qV p l e _ s m args below meth c g _ _ _ _ _ 0 [some (qR 0 0), some (qI a1), some (qI a2), none] [] s0
  exact (qv_aload_n C dX7_removeDependency_0 rfl (qv_getR C (j2 := 0) fl_X7_12 cl_X7 rfl (by decide) (by decide) (by decide) rfl rfl dX7_removeDependency_1 (qv_iload_n C dX7_removeDependency_4 rfl (qv_iload_n C dX7_removeDependency_5 rfl (qv_callVN C (rest := []) (cb := 1) (sb := 6) (t_X5_faultOfPair hl (show 0 < 11 from (by decide)) a1 a2 s0) mw_X5_faultOfPair lk_X7_103 in_X5_faultOfPair se_X5_faultOfPair rfl (by decide) (by decide) rfl rfl (Nat.le_of_ble_eq_true rfl) (by decide) dX7_removeDependency_6 rfl (qkI (fun r1 s1 => (qt_callS C (rest := []) (cb := 0) (sb := 0) (t_X7_refuse hl r1 s1) mw_X7_refuse lk_X7_69 st_X7_refuse rfl (Nat.le_of_ble_eq_true rfl) (by decide) dX7_removeDependency_9 rfl ht (qkV (fun s2 => (qv_aload_n C dX7_removeDependency_12 rfl (qv_callV C (rest := []) (cb := 0) (sb := 0) (t_X7_beginChange hl  s2) mw_X7_beginChange lk_X7_73 in_X7_beginChange se_X7_beginChange rfl (by decide) (by decide) rfl rfl (Nat.le_of_ble_eq_true rfl) (by decide) dX7_removeDependency_13 rfl (qkV (fun s3 => (qv_aload_n C dX7_removeDependency_16 rfl (qv_getR C (j2 := 0) fl_X7_12 cl_X7 rfl (by decide) (by decide) (by decide) rfl rfl dX7_removeDependency_17 (qv_iload_n C dX7_removeDependency_20 rfl (qv_iload_n C dX7_removeDependency_21 rfl (qv_callVN C (rest := []) (cb := 0) (sb := 0) (t_X5_isLinked hl (show 0 < 11 from (by decide)) a1 a2 s3) mw_X5_isLinked lk_X7_95 in_X5_isLinked se_X5_isLinked rfl (by decide) (by decide) rfl rfl (Nat.le_of_ble_eq_true rfl) (by decide) dX7_removeDependency_22 rfl (qkI (fun r2 s4 => (qv_istore_n C dX7_removeDependency_25 (by decide) rfl (qv_aload_n C dX7_removeDependency_26 rfl (qv_getR C (j2 := 0) fl_X7_12 cl_X7 rfl (by decide) (by decide) (by decide) rfl rfl dX7_removeDependency_27 (qv_iload_n C dX7_removeDependency_30 rfl (qv_iload_n C dX7_removeDependency_31 rfl (qv_callVN C (rest := []) (cb := 0) (sb := 0) (t_X5_unlink hl (show 0 < 11 from (by decide)) a1 a2 s4) mw_X5_unlink lk_X7_106 in_X5_unlink se_X5_unlink rfl (by decide) (by decide) rfl rfl (Nat.le_of_ble_eq_true rfl) (by decide) dX7_removeDependency_32 rfl (qkV (fun s5 => (qv_iload_n C dX7_removeDependency_35 rfl (qv_bret C hret dX7_removeDependency_36)))))))))))))))))))))))))))))))
def f_X7_setDuration (a1 : Int32) (a2 : Int32) (s0 : qS) : Option qO :=
  qbind (f_X5_faultOfDuration 0 a1 a2 s0) (qvI (fun r1 s1 =>
  qbind (f_X7_refuse r1 s1) (qvV (fun s2 =>
  qbind (f_X7_beginChange  s2) (qvV (fun s3 =>
  qbind (f_X7_at 2 0 a1 s3) (qvI (fun r2 s4 =>
  qbind (f_X7_put 2 0 a1 a2 s4) (qvV (fun s5 =>
  (some (.inl (some (qI r2)), s5)))) qE0)) qE0)) qE0)) qE1)) qE0
set_option maxRecDepth 100000 in
set_option maxHeartbeats 4000000 in
theorem t_X7_setDuration {g : qG} {l : Launch} (hl : l.stackTraces = false) (a1 : Int32) (a2 : Int32) (s0 : qS) : qM g l 5 1 6 (.code yX7_setDuration cX7_setDuration 4 (some .int)) yX7_setDuration [qR 0 0, qI a1, qI a2] s0 (f_X7_setDuration a1 a2 s0) := by
  refine qM_of (by decide +kernel) hl (List.forall_mem_cons.mpr ⟨rfl, (List.forall_mem_cons.mpr ⟨rfl, (List.forall_mem_cons.mpr ⟨rfl, (fun _ h => absurd h List.not_mem_nil)⟩)⟩)⟩) (Nat.le_of_ble_eq_true rfl) ?_
  intro p e s m args below meth c C hret ht
  show qV p l e _ s m args below meth c g _ _ _ _ _ 0 [some (qR 0 0), some (qI a1), some (qI a2), none] [] s0
  exact (qv_aload_n C dX7_setDuration_0 rfl (qv_getR C (j2 := 0) fl_X7_12 cl_X7 rfl (by decide) (by decide) (by decide) rfl rfl dX7_setDuration_1 (qv_iload_n C dX7_setDuration_4 rfl (qv_iload_n C dX7_setDuration_5 rfl (qv_callVN C (rest := []) (cb := 1) (sb := 6) (t_X5_faultOfDuration hl (show 0 < 11 from (by decide)) a1 a2 s0) mw_X5_faultOfDuration lk_X7_109 in_X5_faultOfDuration se_X5_faultOfDuration rfl (by decide) (by decide) rfl rfl (Nat.le_of_ble_eq_true rfl) (by decide) dX7_setDuration_6 rfl (qkI (fun r1 s1 => (qt_callS C (rest := []) (cb := 0) (sb := 0) (t_X7_refuse hl r1 s1) mw_X7_refuse lk_X7_69 st_X7_refuse rfl (Nat.le_of_ble_eq_true rfl) (by decide) dX7_setDuration_9 rfl ht (qkV (fun s2 => (qv_aload_n C dX7_setDuration_12 rfl (qv_callV C (rest := []) (cb := 0) (sb := 0) (t_X7_beginChange hl  s2) mw_X7_beginChange lk_X7_73 in_X7_beginChange se_X7_beginChange rfl (by decide) (by decide) rfl rfl (Nat.le_of_ble_eq_true rfl) (by decide) dX7_setDuration_13 rfl (qkV (fun s3 => (qv_aload_n C dX7_setDuration_16 rfl (qv_getR C (j2 := 0) fl_X7_12 cl_X7 rfl (by decide) (by decide) (by decide) rfl rfl dX7_setDuration_17 (qv_getR C (j2 := 0) fl_X7_112 cl_X5 rfl (by decide) (by decide) (by decide) rfl rfl dX7_setDuration_20 (qv_iload_n C dX7_setDuration_23 rfl (qv_callS C (rest := []) (cb := 0) (sb := 0) (t_X7_at hl rfl (by decide) (by decide) a1 s3) mw_X7_at lk_X7_115 st_X7_at rfl (Nat.le_of_ble_eq_true rfl) (by decide) dX7_setDuration_24 rfl (qkI (fun r2 s4 => (qv_istore_n C dX7_setDuration_27 (by decide) rfl (qv_aload_n C dX7_setDuration_28 rfl (qv_getR C (j2 := 0) fl_X7_12 cl_X7 rfl (by decide) (by decide) (by decide) rfl rfl dX7_setDuration_29 (qv_getR C (j2 := 0) fl_X7_112 cl_X5 rfl (by decide) (by decide) (by decide) rfl rfl dX7_setDuration_32 (qv_iload_n C dX7_setDuration_35 rfl (qv_iload_n C dX7_setDuration_36 rfl (qv_callS C (rest := []) (cb := 0) (sb := 0) (t_X7_put hl rfl (by decide) (by decide) a1 a2 s4) mw_X7_put lk_X7_119 st_X7_put rfl (Nat.le_of_ble_eq_true rfl) (by decide) dX7_setDuration_37 rfl (qkV (fun s5 => (qv_iload_n C dX7_setDuration_40 rfl (qv_iret C hret dX7_setDuration_41))))))))))))))))))))))))))))))))
def f_X7_setRelease (a1 : Int32) (a2 : Int32) (s0 : qS) : Option qO :=
  qbind (f_X5_faultOfRelease 0 a1 a2 s0) (qvI (fun r1 s1 =>
  qbind (f_X7_refuse r1 s1) (qvV (fun s2 =>
  qbind (f_X7_beginChange  s2) (qvV (fun s3 =>
  qbind (f_X7_at 5 0 a1 s3) (qvI (fun r2 s4 =>
  qbind (f_X7_put 5 0 a1 a2 s4) (qvV (fun s5 =>
  (some (.inl (some (qI r2)), s5)))) qE0)) qE0)) qE0)) qE1)) qE0
set_option maxRecDepth 100000 in
set_option maxHeartbeats 4000000 in
theorem t_X7_setRelease {g : qG} {l : Launch} (hl : l.stackTraces = false) (a1 : Int32) (a2 : Int32) (s0 : qS) : qM g l 5 1 6 (.code yX7_setRelease cX7_setRelease 4 (some .int)) yX7_setRelease [qR 0 0, qI a1, qI a2] s0 (f_X7_setRelease a1 a2 s0) := by
  refine qM_of (by decide +kernel) hl (List.forall_mem_cons.mpr ⟨rfl, (List.forall_mem_cons.mpr ⟨rfl, (List.forall_mem_cons.mpr ⟨rfl, (fun _ h => absurd h List.not_mem_nil)⟩)⟩)⟩) (Nat.le_of_ble_eq_true rfl) ?_
  intro p e s m args below meth c C hret ht
  show qV p l e _ s m args below meth c g _ _ _ _ _ 0 [some (qR 0 0), some (qI a1), some (qI a2), none] [] s0
  exact (qv_aload_n C dX7_setRelease_0 rfl (qv_getR C (j2 := 0) fl_X7_12 cl_X7 rfl (by decide) (by decide) (by decide) rfl rfl dX7_setRelease_1 (qv_iload_n C dX7_setRelease_4 rfl (qv_iload_n C dX7_setRelease_5 rfl (qv_callVN C (rest := []) (cb := 1) (sb := 6) (t_X5_faultOfRelease hl (show 0 < 11 from (by decide)) a1 a2 s0) mw_X5_faultOfRelease lk_X7_123 in_X5_faultOfRelease se_X5_faultOfRelease rfl (by decide) (by decide) rfl rfl (Nat.le_of_ble_eq_true rfl) (by decide) dX7_setRelease_6 rfl (qkI (fun r1 s1 => (qt_callS C (rest := []) (cb := 0) (sb := 0) (t_X7_refuse hl r1 s1) mw_X7_refuse lk_X7_69 st_X7_refuse rfl (Nat.le_of_ble_eq_true rfl) (by decide) dX7_setRelease_9 rfl ht (qkV (fun s2 => (qv_aload_n C dX7_setRelease_12 rfl (qv_callV C (rest := []) (cb := 0) (sb := 0) (t_X7_beginChange hl  s2) mw_X7_beginChange lk_X7_73 in_X7_beginChange se_X7_beginChange rfl (by decide) (by decide) rfl rfl (Nat.le_of_ble_eq_true rfl) (by decide) dX7_setRelease_13 rfl (qkV (fun s3 => (qv_aload_n C dX7_setRelease_16 rfl (qv_getR C (j2 := 0) fl_X7_12 cl_X7 rfl (by decide) (by decide) (by decide) rfl rfl dX7_setRelease_17 (qv_getR C (j2 := 0) fl_X7_126 cl_X5 rfl (by decide) (by decide) (by decide) rfl rfl dX7_setRelease_20 (qv_iload_n C dX7_setRelease_23 rfl (qv_callS C (rest := []) (cb := 0) (sb := 0) (t_X7_at hl rfl (by decide) (by decide) a1 s3) mw_X7_at lk_X7_115 st_X7_at rfl (Nat.le_of_ble_eq_true rfl) (by decide) dX7_setRelease_24 rfl (qkI (fun r2 s4 => (qv_istore_n C dX7_setRelease_27 (by decide) rfl (qv_aload_n C dX7_setRelease_28 rfl (qv_getR C (j2 := 0) fl_X7_12 cl_X7 rfl (by decide) (by decide) (by decide) rfl rfl dX7_setRelease_29 (qv_getR C (j2 := 0) fl_X7_126 cl_X5 rfl (by decide) (by decide) (by decide) rfl rfl dX7_setRelease_32 (qv_iload_n C dX7_setRelease_35 rfl (qv_iload_n C dX7_setRelease_36 rfl (qv_callS C (rest := []) (cb := 0) (sb := 0) (t_X7_put hl rfl (by decide) (by decide) a1 a2 s4) mw_X7_put lk_X7_119 st_X7_put rfl (Nat.le_of_ble_eq_true rfl) (by decide) dX7_setRelease_37 rfl (qkV (fun s5 => (qv_iload_n C dX7_setRelease_40 rfl (qv_iret C hret dX7_setRelease_41))))))))))))))))))))))))))))))))
def f_X7_setLimit (a1 : Int32) (a2 : Int32) (s0 : qS) : Option qO :=
  qbind (f_X5_faultOfLimit 0 a1 a2 s0) (qvI (fun r1 s1 =>
  qbind (f_X7_refuse r1 s1) (qvV (fun s2 =>
  qbind (f_X7_beginChange  s2) (qvV (fun s3 =>
  qbind (f_X7_at 8 0 a1 s3) (qvI (fun r2 s4 =>
  qbind (f_X7_put 8 0 a1 a2 s4) (qvV (fun s5 =>
  (some (.inl (some (qI r2)), s5)))) qE0)) qE0)) qE0)) qE1)) qE0
set_option maxRecDepth 100000 in
set_option maxHeartbeats 4000000 in
theorem t_X7_setLimit {g : qG} {l : Launch} (hl : l.stackTraces = false) (a1 : Int32) (a2 : Int32) (s0 : qS) : qM g l 5 1 6 (.code yX7_setLimit cX7_setLimit 4 (some .int)) yX7_setLimit [qR 0 0, qI a1, qI a2] s0 (f_X7_setLimit a1 a2 s0) := by
  refine qM_of (by decide +kernel) hl (List.forall_mem_cons.mpr ⟨rfl, (List.forall_mem_cons.mpr ⟨rfl, (List.forall_mem_cons.mpr ⟨rfl, (fun _ h => absurd h List.not_mem_nil)⟩)⟩)⟩) (Nat.le_of_ble_eq_true rfl) ?_
  intro p e s m args below meth c C hret ht
  show qV p l e _ s m args below meth c g _ _ _ _ _ 0 [some (qR 0 0), some (qI a1), some (qI a2), none] [] s0
  exact (qv_aload_n C dX7_setLimit_0 rfl (qv_getR C (j2 := 0) fl_X7_12 cl_X7 rfl (by decide) (by decide) (by decide) rfl rfl dX7_setLimit_1 (qv_iload_n C dX7_setLimit_4 rfl (qv_iload_n C dX7_setLimit_5 rfl (qv_callVN C (rest := []) (cb := 1) (sb := 6) (t_X5_faultOfLimit hl (show 0 < 11 from (by decide)) a1 a2 s0) mw_X5_faultOfLimit lk_X7_129 in_X5_faultOfLimit se_X5_faultOfLimit rfl (by decide) (by decide) rfl rfl (Nat.le_of_ble_eq_true rfl) (by decide) dX7_setLimit_6 rfl (qkI (fun r1 s1 => (qt_callS C (rest := []) (cb := 0) (sb := 0) (t_X7_refuse hl r1 s1) mw_X7_refuse lk_X7_69 st_X7_refuse rfl (Nat.le_of_ble_eq_true rfl) (by decide) dX7_setLimit_9 rfl ht (qkV (fun s2 => (qv_aload_n C dX7_setLimit_12 rfl (qv_callV C (rest := []) (cb := 0) (sb := 0) (t_X7_beginChange hl  s2) mw_X7_beginChange lk_X7_73 in_X7_beginChange se_X7_beginChange rfl (by decide) (by decide) rfl rfl (Nat.le_of_ble_eq_true rfl) (by decide) dX7_setLimit_13 rfl (qkV (fun s3 => (qv_aload_n C dX7_setLimit_16 rfl (qv_getR C (j2 := 0) fl_X7_12 cl_X7 rfl (by decide) (by decide) (by decide) rfl rfl dX7_setLimit_17 (qv_getR C (j2 := 0) fl_X7_132 cl_X5 rfl (by decide) (by decide) (by decide) rfl rfl dX7_setLimit_20 (qv_iload_n C dX7_setLimit_23 rfl (qv_callS C (rest := []) (cb := 0) (sb := 0) (t_X7_at hl rfl (by decide) (by decide) a1 s3) mw_X7_at lk_X7_115 st_X7_at rfl (Nat.le_of_ble_eq_true rfl) (by decide) dX7_setLimit_24 rfl (qkI (fun r2 s4 => (qv_istore_n C dX7_setLimit_27 (by decide) rfl (qv_aload_n C dX7_setLimit_28 rfl (qv_getR C (j2 := 0) fl_X7_12 cl_X7 rfl (by decide) (by decide) (by decide) rfl rfl dX7_setLimit_29 (qv_getR C (j2 := 0) fl_X7_132 cl_X5 rfl (by decide) (by decide) (by decide) rfl rfl dX7_setLimit_32 (qv_iload_n C dX7_setLimit_35 rfl (qv_iload_n C dX7_setLimit_36 rfl (qv_callS C (rest := []) (cb := 0) (sb := 0) (t_X7_put hl rfl (by decide) (by decide) a1 a2 s4) mw_X7_put lk_X7_119 st_X7_put rfl (Nat.le_of_ble_eq_true rfl) (by decide) dX7_setLimit_37 rfl (qkV (fun s5 => (qv_iload_n C dX7_setLimit_40 rfl (qv_iret C hret dX7_setLimit_41))))))))))))))))))))))))))))))))
def f_X7_takeBaseline  (s0 : qS) : Option qO :=
  qbind (f_X7_beginChange  s0) (qvV (fun s1 =>
  qbind (f_X7_currentPlan  s1) (qvS 11 (fun s2 =>
  qbind (f_X5_takeStarts 0 17 0 s2) (qvV (fun s3 =>
  (some (.inl (some (qI (s3 11 0 8))), s3)))) qE0)) qE0)) qE0
set_option maxRecDepth 100000 in
set_option maxHeartbeats 4000000 in
theorem t_X7_takeBaseline {g : qG} {l : Launch} (hl : l.stackTraces = false)  (s0 : qS) : qM g l 24 0 0 (.code yX7_takeBaseline cX7_takeBaseline 2 (some .int)) yX7_takeBaseline [qR 0 0] s0 (f_X7_takeBaseline  s0) := by
  refine qM_of (by decide +kernel) hl (List.forall_mem_cons.mpr ⟨rfl, (fun _ h => absurd h List.not_mem_nil)⟩) (Nat.le_of_ble_eq_true rfl) ?_
  intro p e s m args below meth c C hret ht
  show qV p l e _ s m args below meth c g _ _ _ _ _ 0 [some (qR 0 0), none] [] s0
  exact (qv_aload_n C dX7_takeBaseline_0 rfl (qv_callV C (rest := []) (cb := 0) (sb := 0) (t_X7_beginChange hl  s0) mw_X7_beginChange lk_X7_73 in_X7_beginChange se_X7_beginChange rfl (by decide) (by decide) rfl rfl (Nat.le_of_ble_eq_true rfl) (by decide) dX7_takeBaseline_1 rfl (qkV (fun s1 => (qv_aload_n C dX7_takeBaseline_4 rfl (qv_callV C (rest := []) (cb := 0) (sb := 0) (t_X7_currentPlan hl  s1) mw_X7_currentPlan lk_X7_135 in_X7_currentPlan se_X7_currentPlan rfl (by decide) (by decide) rfl rfl (Nat.le_of_ble_eq_true rfl) (by decide) dX7_takeBaseline_5 rfl (qkOne (fun s2 => (qv_astore_n C dX7_takeBaseline_8 (by decide) rfl (qv_aload_n C dX7_takeBaseline_9 rfl (qv_getR C (j2 := 0) fl_X7_12 cl_X7 rfl (by decide) (by decide) (by decide) rfl rfl dX7_takeBaseline_10 (qv_aload_n C dX7_takeBaseline_13 rfl (qv_getR C (j2 := 0) fl_X7_139 cl_X4 rfl (by decide) (by decide) (by decide) rfl rfl dX7_takeBaseline_14 (qv_callVN C (rest := []) (cb := 0) (sb := 0) (t_X5_takeStarts hl (show 0 < 11 from (by decide)) rfl (by decide) (by decide) s2) mw_X5_takeStarts lk_X7_142 in_X5_takeStarts se_X5_takeStarts rfl (by decide) (by decide) rfl rfl (Nat.le_of_ble_eq_true rfl) (by decide) dX7_takeBaseline_17 rfl (qkV (fun s3 => (qv_aload_n C dX7_takeBaseline_20 rfl (qv_getI C fl_X7_146 cl_X4 rfl (by decide) (by decide) (by decide) rfl dX7_takeBaseline_21 (qv_iret C hret dX7_takeBaseline_24)))))))))))))))))))
def f_X7_limit (a1 : Int32) (s0 : qS) : Option qO :=
  qbind (f_X7_requireResource a1 s0) (qvV (fun s1 =>
  qbind (f_X7_at 8 0 a1 s1) (qvI (fun r1 s2 =>
  (some (.inl (some (qI r1)), s2)))) qE0)) qE1
set_option maxRecDepth 100000 in
set_option maxHeartbeats 4000000 in
theorem t_X7_limit {g : qG} {l : Launch} (hl : l.stackTraces = false) (a1 : Int32) (s0 : qS) : qM g l 3 1 6 (.code yX7_limit cX7_limit 2 (some .int)) yX7_limit [qR 0 0, qI a1] s0 (f_X7_limit a1 s0) := by
  refine qM_of (by decide +kernel) hl (List.forall_mem_cons.mpr ⟨rfl, (List.forall_mem_cons.mpr ⟨rfl, (fun _ h => absurd h List.not_mem_nil)⟩)⟩) (Nat.le_of_ble_eq_true rfl) ?_
  intro p e s m args below meth c C hret ht
  show qV p l e _ s m args below meth c g _ _ _ _ _ 0 [some (qR 0 0), some (qI a1)] [] s0
  exact (qv_iload_n C dX7_limit_0 rfl (qt_callS C (rest := []) (cb := 0) (sb := 0) (t_X7_requireResource hl a1 s0) mw_X7_requireResource lk_X7_158 st_X7_requireResource rfl (Nat.le_of_ble_eq_true rfl) (by decide) dX7_limit_1 rfl ht (qkV (fun s1 => (qv_aload_n C dX7_limit_4 rfl (qv_getR C (j2 := 0) fl_X7_12 cl_X7 rfl (by decide) (by decide) (by decide) rfl rfl dX7_limit_5 (qv_getR C (j2 := 0) fl_X7_132 cl_X5 rfl (by decide) (by decide) (by decide) rfl rfl dX7_limit_8 (qv_iload_n C dX7_limit_11 rfl (qv_callS C (rest := []) (cb := 0) (sb := 0) (t_X7_at hl rfl (by decide) (by decide) a1 s1) mw_X7_at lk_X7_115 st_X7_at rfl (Nat.le_of_ble_eq_true rfl) (by decide) dX7_limit_12 rfl (qkI (fun r1 s2 => (qv_iret C hret dX7_limit_15))))))))))))
def f_X7_taskInOrder (a1 : Int32) (s0 : qS) : Option qO :=
  qbind (f_X7_isWithin a1 (0 : Int32) ((s0 1 0 7) - (1 : Int32)) s0) (qvI (fun r1 s1 =>
  (if r1 = 0 then (some (.inr qNSE, s1)) else
  qbind (f_X7_currentPlan  s1) (qvS 11 (fun s2 =>
  qbind (f_X7_at 12 0 a1 s2) (qvI (fun r2 s3 =>
  (some (.inl (some (qI r2)), s3)))) qE0)) qE0))) qE0
set_option maxRecDepth 100000 in
set_option maxHeartbeats 4000000 in
theorem t_X7_taskInOrder {g : qG} {l : Launch} (hl : l.stackTraces = false) (a1 : Int32) (s0 : qS) : qM g l 24 1 6 (.code yX7_taskInOrder cX7_taskInOrder 2 (some .int)) yX7_taskInOrder [qR 0 0, qI a1] s0 (f_X7_taskInOrder a1 s0) := by
  refine qM_of (by decide +kernel) hl (List.forall_mem_cons.mpr ⟨rfl, (List.forall_mem_cons.mpr ⟨rfl, (fun _ h => absurd h List.not_mem_nil)⟩)⟩) (Nat.le_of_ble_eq_true rfl) ?_
  intro p e s m args below meth c C hret ht
  show qV p l e _ s m args below meth c g _ _ _ _ _ 0 [some (qR 0 0), some (qI a1)] [] s0
  exact (qv_iload_n C dX7_taskInOrder_0 rfl (qv_iconst C (v := (0 : Int32)) dX7_taskInOrder_1 (by decide) (qv_aload_n C dX7_taskInOrder_2 rfl (qv_getR C (j2 := 0) fl_X7_12 cl_X7 rfl (by decide) (by decide) (by decide) rfl rfl dX7_taskInOrder_3 (qv_getI C fl_X7_88 cl_X5 rfl (by decide) (by decide) (by decide) rfl dX7_taskInOrder_6 (qv_iconst C (v := (1 : Int32)) dX7_taskInOrder_9 (by decide) (qv_isub C dX7_taskInOrder_10 (qv_callS C (rest := []) (cb := 1) (sb := 6) (t_X7_isWithin hl a1 (0 : Int32) ((s0 1 0 7) - (1 : Int32)) s0) mw_X7_isWithin lk_X7_179 st_X7_isWithin rfl (Nat.le_of_ble_eq_true rfl) (by decide) dX7_taskInOrder_11 rfl (qkI (fun r1 s1 => (qv_if_ne C (tgt := 27) dX7_taskInOrder_14 (by decide) (fun _ => (qv_throwXN C (text := "no such position") (by decide) ht (Nat.le_of_ble_eq_true rfl) (by decide) dX7_taskInOrder_17 dX7_taskInOrder_20 dX7_taskInOrder_21 dX7_taskInOrder_23 dX7_taskInOrder_26))
  (fun _ => (qV.less (cb' := 0) (sb' := 0) (qv_aload_n C dX7_taskInOrder_27 rfl (qv_callV C (rest := []) (cb := 0) (sb := 0) (t_X7_currentPlan hl  s1) mw_X7_currentPlan lk_X7_135 in_X7_currentPlan se_X7_currentPlan rfl (by decide) (by decide) rfl rfl (Nat.le_of_ble_eq_true rfl) (by decide) dX7_taskInOrder_28 rfl (qkOne (fun s2 => (qv_getR C (j2 := 0) fl_X7_190 cl_X4 rfl (by decide) (by decide) (by decide) rfl rfl dX7_taskInOrder_31 (qv_iload_n C dX7_taskInOrder_34 rfl (qv_callS C (rest := []) (cb := 0) (sb := 0) (t_X7_at hl rfl (by decide) (by decide) a1 s2) mw_X7_at lk_X7_115 st_X7_at rfl (Nat.le_of_ble_eq_true rfl) (by decide) dX7_taskInOrder_35 rfl (qkI (fun r2 s3 => (qv_iret C hret dX7_taskInOrder_38)))))))))) (by decide) (by decide))))))))))))))
def f_X7_projectLength  (s0 : qS) : Option qO :=
  qbind (f_X7_currentPlan  s0) (qvS 11 (fun s1 =>
  (some (.inl (some (qI (s1 11 0 7))), s1)))) qE0
set_option maxRecDepth 100000 in
set_option maxHeartbeats 4000000 in
theorem t_X7_projectLength {g : qG} {l : Launch} (hl : l.stackTraces = false)  (s0 : qS) : qM g l 24 0 0 (.code yX7_projectLength cX7_projectLength 1 (some .int)) yX7_projectLength [qR 0 0] s0 (f_X7_projectLength  s0) := by
  refine qM_of (by decide +kernel) hl (List.forall_mem_cons.mpr ⟨rfl, (fun _ h => absurd h List.not_mem_nil)⟩) (Nat.le_of_ble_eq_true rfl) ?_
  intro p e s m args below meth c C hret ht
  show qV p l e _ s m args below meth c g _ _ _ _ _ 0 [some (qR 0 0)] [] s0
  exact (qv_aload_n C dX7_projectLength_0 rfl (qv_callV C (rest := []) (cb := 0) (sb := 0) (t_X7_currentPlan hl  s0) mw_X7_currentPlan lk_X7_135 in_X7_currentPlan se_X7_currentPlan rfl (by decide) (by decide) rfl rfl (Nat.le_of_ble_eq_true rfl) (by decide) dX7_projectLength_1 rfl (qkOne (fun s1 => (qv_getI C fl_X7_205 cl_X4 rfl (by decide) (by decide) (by decide) rfl dX7_projectLength_4 (qv_iret C hret dX7_projectLength_7))))))
def b_X7_criticalCount_9 (rk9 : Int32 → Int32 → qS → Option qO) (v2 : Int32) (v3 : Int32) (s0 : qS) : Option qO :=
  (if (s0 1 0 7) ≤ v3 then (some (.inl (some (qI v2)), s0)) else
  qbind (f_X4_slackOf v3 s0) (qvI (fun r1 s2 =>
  (if r1 = 0 then rk9 (v2 + (1 : Int32)) (v3 + (1 : Int32)) s2 else
  rk9 v2 (v3 + (1 : Int32)) s2))) qE0)
def l_X7_criticalCount_9 : Nat → Int32 → Int32 → qS → Option qO
  | 0, _, _, _ => none
  | n + 1, v2, v3, s0 => b_X7_criticalCount_9  (l_X7_criticalCount_9  n) v2 v3 s0
set_option maxRecDepth 100000 in
set_option maxHeartbeats 4000000 in
theorem bt_X7_criticalCount_9 {p : Program} {l : Launch} {e : Env} {s : State} {m : MethodId} {args : Array Value} {below : List Frame} {meth : Method} {c : Code} {g : qG} (hl : l.stackTraces = false) (C : qC p l s m meth c cX7_criticalCount 4 RX7 g) (hret : meth.sig.returnType = (some .int)) (ht : ∀ x ∈ c.exceptionTable.toList, False)  (rk9 : Int32 → Int32 → qS → Option qO) (hrk9 : ∀ (v2 : Int32) (v3 : Int32) (s0 : qS), qV p l e (qrm 24 0 0) s m args below meth c g 4 (qQf g below args s (qrm 24 0 0)) (rk9 v2 v3 s0) 0 0 9 [some (qR 0 0), some (qR 11 0), some (qI v2), some (qI v3)] [] s0) (v2 : Int32) (v3 : Int32) (s0 : qS) : qV p l e (qrm 24 0 0) s m args below meth c g 4 (qQf g below args s (qrm 24 0 0)) (b_X7_criticalCount_9  rk9 v2 v3 s0) 0 0 9 [some (qR 0 0), some (qR 11 0), some (qI v2), some (qI v3)] [] s0 :=
  (qv_iload_n C dX7_criticalCount_9 rfl (qv_aload_n C dX7_criticalCount_10 rfl (qv_getR C (j2 := 0) fl_X7_12 cl_X7 rfl (by decide) (by decide) (by decide) rfl rfl dX7_criticalCount_11 (qv_getI C fl_X7_88 cl_X5 rfl (by decide) (by decide) (by decide) rfl dX7_criticalCount_14 (qv_icmp_ge C (tgt := 37) dX7_criticalCount_17 (by decide) (fun _ => (qv_iload_n C dX7_criticalCount_37 rfl (qv_iret C hret dX7_criticalCount_38)))
  (fun _ => (qv_aload_n C dX7_criticalCount_20 rfl (qv_iload_n C dX7_criticalCount_21 rfl (qv_callVN C (rest := []) (cb := 0) (sb := 0) (t_X4_slackOf hl v3 s0) mw_X4_slackOf lk_X7_202 in_X4_slackOf se_X4_slackOf rfl (by decide) (by decide) rfl rfl (Nat.le_of_ble_eq_true rfl) (by decide) dX7_criticalCount_22 rfl (qkI (fun r1 s2 => (qv_if_ne C (tgt := 31) dX7_criticalCount_25 (by decide) (fun _ => (qv_iinc C (v := (v2 + (1 : Int32))) dX7_criticalCount_28 rfl rfl (by decide) rfl (qv_iinc C (v := (v3 + (1 : Int32))) dX7_criticalCount_31 rfl rfl (by decide) rfl (qv_goto C (tgt := 9) dX7_criticalCount_34 (by decide) (qV.weak [true, true, true, true] (hrk9 (v2 + (1 : Int32)) (v3 + (1 : Int32)) s2))))))
  (fun _ => (qv_iinc C (v := (v3 + (1 : Int32))) dX7_criticalCount_31 rfl rfl (by decide) rfl (qv_goto C (tgt := 9) dX7_criticalCount_34 (by decide) (qV.weak [true, true, true, true] (hrk9 v2 (v3 + (1 : Int32)) s2)))))))))))))))))
theorem lt_X7_criticalCount_9 {p : Program} {l : Launch} {e : Env} {s : State} {m : MethodId} {args : Array Value} {below : List Frame} {meth : Method} {c : Code} {g : qG} (hl : l.stackTraces = false) (C : qC p l s m meth c cX7_criticalCount 4 RX7 g) (hret : meth.sig.returnType = (some .int)) (ht : ∀ x ∈ c.exceptionTable.toList, False)  : ∀ (n : Nat) (v2 : Int32) (v3 : Int32) (s0 : qS), qV p l e (qrm 24 0 0) s m args below meth c g 4 (qQf g below args s (qrm 24 0 0)) (l_X7_criticalCount_9  n v2 v3 s0) 0 0 9 [some (qR 0 0), some (qR 11 0), some (qI v2), some (qI v3)] [] s0
  | 0, _, _, _ => qV.no
  | n + 1, v2, v3, s0 => bt_X7_criticalCount_9 hl C hret ht  _ (lt_X7_criticalCount_9 hl C hret ht  n) v2 v3 s0
def f_X7_criticalCount  (s0 : qS) : Option qO :=
  qbind (f_X7_currentPlan  s0) (qvS 11 (fun s1 =>
  l_X7_criticalCount_9  qFU (0 : Int32) (0 : Int32) s1)) qE0
set_option maxRecDepth 100000 in
set_option maxHeartbeats 4000000 in
theorem t_X7_criticalCount {g : qG} {l : Launch} (hl : l.stackTraces = false)  (s0 : qS) : qM g l 24 0 0 (.code yX7_criticalCount cX7_criticalCount 4 (some .int)) yX7_criticalCount [qR 0 0] s0 (f_X7_criticalCount  s0) := by
  refine qM_of (by decide +kernel) hl (List.forall_mem_cons.mpr ⟨rfl, (fun _ h => absurd h List.not_mem_nil)⟩) (Nat.le_of_ble_eq_true rfl) ?_
  intro p e s m args below meth c C hret ht
  show qV p l e _ s m args below meth c g _ _ _ _ _ 0 [some (qR 0 0), none, none, none] [] s0
  exact (qv_aload_n C dX7_criticalCount_0 rfl (qv_callV C (rest := []) (cb := 0) (sb := 0) (t_X7_currentPlan hl  s0) mw_X7_currentPlan lk_X7_135 in_X7_currentPlan se_X7_currentPlan rfl (by decide) (by decide) rfl rfl (Nat.le_of_ble_eq_true rfl) (by decide) dX7_criticalCount_1 rfl (qkOne (fun s1 => (qv_astore_n C dX7_criticalCount_4 (by decide) rfl (qv_iconst C (v := (0 : Int32)) dX7_criticalCount_5 (by decide) (qv_istore_n C dX7_criticalCount_6 (by decide) rfl (qv_iconst C (v := (0 : Int32)) dX7_criticalCount_7 (by decide) (qv_istore_n C dX7_criticalCount_8 (by decide) rfl (qV.weak [true, true, true, true] (lt_X7_criticalCount_9 hl C hret ht  qFU (0 : Int32) (0 : Int32) s1)))))))))))
def b_X7_lastTask_7 (rk7 : Int32 → qS → Option qO) (v2 : Int32) (s0 : qS) : Option qO :=
  (if (s0 1 0 7) ≤ v2 then (some (.inr qNSE, s0)) else
  qbind (f_X7_at 14 0 v2 s0) (qvI (fun r1 s2 =>
  qbind (f_X7_at 2 0 v2 s2) (qvI (fun r2 s3 =>
  (if (r1 + r2) = (s3 11 0 7) then (some (.inl (some (qI v2)), s3)) else
  rk7 (v2 + (1 : Int32)) s3))) qE0)) qE0)
def l_X7_lastTask_7 : Nat → Int32 → qS → Option qO
  | 0, _, _ => none
  | n + 1, v2, s0 => b_X7_lastTask_7  (l_X7_lastTask_7  n) v2 s0
set_option maxRecDepth 100000 in
set_option maxHeartbeats 4000000 in
theorem bt_X7_lastTask_7 {p : Program} {l : Launch} {e : Env} {s : State} {m : MethodId} {args : Array Value} {below : List Frame} {meth : Method} {c : Code} {g : qG} (hl : l.stackTraces = false) (C : qC p l s m meth c cX7_lastTask 3 RX7 g) (hret : meth.sig.returnType = (some .int)) (ht : ∀ x ∈ c.exceptionTable.toList, False)  (rk7 : Int32 → qS → Option qO) (hrk7 : ∀ (v2 : Int32) (s0 : qS), qV p l e (qrm 24 1 6) s m args below meth c g 3 (qQf g below args s (qrm 24 1 6)) (rk7 v2 s0) 1 6 7 [some (qR 0 0), some (qR 11 0), some (qI v2)] [] s0) (v2 : Int32) (s0 : qS) : qV p l e (qrm 24 1 6) s m args below meth c g 3 (qQf g below args s (qrm 24 1 6)) (b_X7_lastTask_7  rk7 v2 s0) 1 6 7 [some (qR 0 0), some (qR 11 0), some (qI v2)] [] s0 :=
  (qv_iload_n C dX7_lastTask_7 rfl (qv_aload_n C dX7_lastTask_8 rfl (qv_getR C (j2 := 0) fl_X7_12 cl_X7 rfl (by decide) (by decide) (by decide) rfl rfl dX7_lastTask_9 (qv_getI C fl_X7_88 cl_X5 rfl (by decide) (by decide) (by decide) rfl dX7_lastTask_12 (qv_icmp_ge C (tgt := 53) dX7_lastTask_15 (by decide) (fun _ => (qv_throwXN C (text := "there are no tasks") (by decide) ht (Nat.le_of_ble_eq_true rfl) (by decide) dX7_lastTask_53 dX7_lastTask_56 dX7_lastTask_57 dX7_lastTask_59 dX7_lastTask_62))
  (fun _ => (qv_aload_n C dX7_lastTask_18 rfl (qv_getR C (j2 := 0) fl_X7_193 cl_X4 rfl (by decide) (by decide) (by decide) rfl rfl dX7_lastTask_19 (qv_iload_n C dX7_lastTask_22 rfl (qv_callS C (rest := []) (cb := 1) (sb := 6) (t_X7_at hl rfl (by decide) (by decide) v2 s0) mw_X7_at lk_X7_115 st_X7_at rfl (Nat.le_of_ble_eq_true rfl) (by decide) dX7_lastTask_23 rfl (qkI (fun r1 s2 => (qv_aload_n C dX7_lastTask_26 rfl (qv_getR C (j2 := 0) fl_X7_12 cl_X7 rfl (by decide) (by decide) (by decide) rfl rfl dX7_lastTask_27 (qv_getR C (j2 := 0) fl_X7_112 cl_X5 rfl (by decide) (by decide) (by decide) rfl rfl dX7_lastTask_30 (qv_iload_n C dX7_lastTask_33 rfl (qv_callS C (rest := [qI r1]) (cb := 1) (sb := 6) (t_X7_at hl rfl (by decide) (by decide) v2 s2) mw_X7_at lk_X7_115 st_X7_at rfl (Nat.le_of_ble_eq_true rfl) (by decide) dX7_lastTask_34 rfl (qkI (fun r2 s3 => (qv_iadd C dX7_lastTask_37 (qv_aload_n C dX7_lastTask_38 rfl (qv_getI C fl_X7_205 cl_X4 rfl (by decide) (by decide) (by decide) rfl dX7_lastTask_39 (qv_icmp_ne C (tgt := 47) dX7_lastTask_42 (by decide) (fun _ => (qV.less (cb' := 0) (sb' := 0) (qv_iload_n C dX7_lastTask_45 rfl (qv_iret C hret dX7_lastTask_46)) (by decide) (by decide)))
  (fun _ => (qv_iinc C (v := (v2 + (1 : Int32))) dX7_lastTask_47 rfl rfl (by decide) rfl (qv_goto C (tgt := 7) dX7_lastTask_50 (by decide) (qV.weak [true, true, true] (hrk7 (v2 + (1 : Int32)) s3))))))))))))))))))))))))))))
theorem lt_X7_lastTask_7 {p : Program} {l : Launch} {e : Env} {s : State} {m : MethodId} {args : Array Value} {below : List Frame} {meth : Method} {c : Code} {g : qG} (hl : l.stackTraces = false) (C : qC p l s m meth c cX7_lastTask 3 RX7 g) (hret : meth.sig.returnType = (some .int)) (ht : ∀ x ∈ c.exceptionTable.toList, False)  : ∀ (n : Nat) (v2 : Int32) (s0 : qS), qV p l e (qrm 24 1 6) s m args below meth c g 3 (qQf g below args s (qrm 24 1 6)) (l_X7_lastTask_7  n v2 s0) 1 6 7 [some (qR 0 0), some (qR 11 0), some (qI v2)] [] s0
  | 0, _, _ => qV.no
  | n + 1, v2, s0 => bt_X7_lastTask_7 hl C hret ht  _ (lt_X7_lastTask_7 hl C hret ht  n) v2 s0
def f_X7_lastTask  (s0 : qS) : Option qO :=
  qbind (f_X7_currentPlan  s0) (qvS 11 (fun s1 =>
  l_X7_lastTask_7  qFU (0 : Int32) s1)) qE0
set_option maxRecDepth 100000 in
set_option maxHeartbeats 4000000 in
theorem t_X7_lastTask {g : qG} {l : Launch} (hl : l.stackTraces = false)  (s0 : qS) : qM g l 24 1 6 (.code yX7_lastTask cX7_lastTask 3 (some .int)) yX7_lastTask [qR 0 0] s0 (f_X7_lastTask  s0) := by
  refine qM_of (by decide +kernel) hl (List.forall_mem_cons.mpr ⟨rfl, (fun _ h => absurd h List.not_mem_nil)⟩) (Nat.le_of_ble_eq_true rfl) ?_
  intro p e s m args below meth c C hret ht
  show qV p l e _ s m args below meth c g _ _ _ _ _ 0 [some (qR 0 0), none, none] [] s0
  exact (qv_aload_n C dX7_lastTask_0 rfl (qv_callV C (rest := []) (cb := 1) (sb := 6) (t_X7_currentPlan hl  s0) mw_X7_currentPlan lk_X7_135 in_X7_currentPlan se_X7_currentPlan rfl (by decide) (by decide) rfl rfl (Nat.le_of_ble_eq_true rfl) (by decide) dX7_lastTask_1 rfl (qkOne (fun s1 => (qv_astore_n C dX7_lastTask_4 (by decide) rfl (qv_iconst C (v := (0 : Int32)) dX7_lastTask_5 (by decide) (qv_istore_n C dX7_lastTask_6 (by decide) rfl (qV.weak [true, true, true] (lt_X7_lastTask_7 hl C hret ht  qFU (0 : Int32) s1)))))))))
def f_X7_levelledLength  (s0 : qS) : Option qO :=
  qbind (f_X7_currentPlan  s0) (qvS 11 (fun s1 =>
  (some (.inl (some (qI (s1 11 0 8))), s1)))) qE0
set_option maxRecDepth 100000 in
set_option maxHeartbeats 4000000 in
theorem t_X7_levelledLength {g : qG} {l : Launch} (hl : l.stackTraces = false)  (s0 : qS) : qM g l 24 0 0 (.code yX7_levelledLength cX7_levelledLength 1 (some .int)) yX7_levelledLength [qR 0 0] s0 (f_X7_levelledLength  s0) := by
  refine qM_of (by decide +kernel) hl (List.forall_mem_cons.mpr ⟨rfl, (fun _ h => absurd h List.not_mem_nil)⟩) (Nat.le_of_ble_eq_true rfl) ?_
  intro p e s m args below meth c C hret ht
  show qV p l e _ s m args below meth c g _ _ _ _ _ 0 [some (qR 0 0)] [] s0
  exact (qv_aload_n C dX7_levelledLength_0 rfl (qv_callV C (rest := []) (cb := 0) (sb := 0) (t_X7_currentPlan hl  s0) mw_X7_currentPlan lk_X7_135 in_X7_currentPlan se_X7_currentPlan rfl (by decide) (by decide) rfl rfl (Nat.le_of_ble_eq_true rfl) (by decide) dX7_levelledLength_1 rfl (qkOne (fun s1 => (qv_getI C fl_X7_146 cl_X4 rfl (by decide) (by decide) (by decide) rfl dX7_levelledLength_4 (qv_iret C hret dX7_levelledLength_7))))))
def f_X7_usage (a1 : Int32) (a2 : Int32) (s0 : qS) : Option qO :=
  qbind (f_X7_requireResource a1 s0) (qvV (fun s1 =>
  qbind (f_X7_requireDay a2 s1) (qvV (fun s2 =>
  qbind (f_X7_currentPlan  s2) (qvS 11 (fun s3 =>
  qbind (f_X4_usedOn a1 a2 s3) (qvI (fun r1 s4 =>
  (some (.inl (some (qI r1)), s4)))) qE0)) qE0)) qE1)) qE1
set_option maxRecDepth 100000 in
set_option maxHeartbeats 4000000 in
theorem t_X7_usage {g : qG} {l : Launch} (hl : l.stackTraces = false) (a1 : Int32) (a2 : Int32) (s0 : qS) : qM g l 24 2 12 (.code yX7_usage cX7_usage 3 (some .int)) yX7_usage [qR 0 0, qI a1, qI a2] s0 (f_X7_usage a1 a2 s0) := by
  refine qM_of (by decide +kernel) hl (List.forall_mem_cons.mpr ⟨rfl, (List.forall_mem_cons.mpr ⟨rfl, (List.forall_mem_cons.mpr ⟨rfl, (fun _ h => absurd h List.not_mem_nil)⟩)⟩)⟩) (Nat.le_of_ble_eq_true rfl) ?_
  intro p e s m args below meth c C hret ht
  show qV p l e _ s m args below meth c g _ _ _ _ _ 0 [some (qR 0 0), some (qI a1), some (qI a2)] [] s0
  exact (qv_iload_n C dX7_usage_0 rfl (qt_callS C (rest := []) (cb := 1) (sb := 6) (t_X7_requireResource hl a1 s0) mw_X7_requireResource lk_X7_158 st_X7_requireResource rfl (Nat.le_of_ble_eq_true rfl) (by decide) dX7_usage_1 rfl ht (qkV (fun s1 => (qv_iload_n C dX7_usage_4 rfl (qt_callS C (rest := []) (cb := 0) (sb := 0) (t_X7_requireDay hl a2 s1) mw_X7_requireDay lk_X7_210 st_X7_requireDay rfl (Nat.le_of_ble_eq_true rfl) (by decide) dX7_usage_5 rfl ht (qkV (fun s2 => (qv_aload_n C dX7_usage_8 rfl (qv_callV C (rest := []) (cb := 0) (sb := 0) (t_X7_currentPlan hl  s2) mw_X7_currentPlan lk_X7_135 in_X7_currentPlan se_X7_currentPlan rfl (by decide) (by decide) rfl rfl (Nat.le_of_ble_eq_true rfl) (by decide) dX7_usage_9 rfl (qkOne (fun s3 => (qv_iload_n C dX7_usage_12 rfl (qv_iload_n C dX7_usage_13 rfl (qv_callVN C (rest := []) (cb := 0) (sb := 0) (t_X4_usedOn hl a1 a2 s3) mw_X4_usedOn lk_X7_213 in_X4_usedOn se_X4_usedOn rfl (by decide) (by decide) rfl rfl (Nat.le_of_ble_eq_true rfl) (by decide) dX7_usage_14 rfl (qkI (fun r1 s4 => (qv_iret C hret dX7_usage_17))))))))))))))))))
def b_X7_usageByTasks_13 (rk13 : Int32 → Int32 → Int32 → Int32 → qS → Option qO) (v1 : Int32) (v2 : Int32) (v3 : Int32) (v4 : Int32) (s0 : qS) : Option qO :=
  (if (s0 1 0 7) ≤ v4 then (some (.inl (some (qI v3)), s0)) else
  qbind (f_X7_at 3 0 v4 s0) (qvI (fun r1 s3 =>
  (if r1 = v1 then qbind (f_X7_isWorkedOn v4 v2 s3) (qvI (fun r2 s4 =>
  (if r2 = 0 then rk13 v1 v2 v3 (v4 + (1 : Int32)) s4 else
  qbind (f_X7_at 4 0 v4 s4) (qvI (fun r3 s5 =>
  rk13 v1 v2 (v3 + r3) (v4 + (1 : Int32)) s5)) qE0))) qE0 else
  rk13 v1 v2 v3 (v4 + (1 : Int32)) s3))) qE0)
def l_X7_usageByTasks_13 : Nat → Int32 → Int32 → Int32 → Int32 → qS → Option qO
  | 0, _, _, _, _, _ => none
  | n + 1, v1, v2, v3, v4, s0 => b_X7_usageByTasks_13  (l_X7_usageByTasks_13  n) v1 v2 v3 v4 s0
set_option maxRecDepth 100000 in
set_option maxHeartbeats 4000000 in
theorem bt_X7_usageByTasks_13 {p : Program} {l : Launch} {e : Env} {s : State} {m : MethodId} {args : Array Value} {below : List Frame} {meth : Method} {c : Code} {g : qG} (hl : l.stackTraces = false) (C : qC p l s m meth c cX7_usageByTasks 5 RX7 g) (hret : meth.sig.returnType = (some .int)) (ht : ∀ x ∈ c.exceptionTable.toList, False)  (rk13 : Int32 → Int32 → Int32 → Int32 → qS → Option qO) (hrk13 : ∀ (v1 : Int32) (v2 : Int32) (v3 : Int32) (v4 : Int32) (s0 : qS), qV p l e (qrm 25 2 12) s m args below meth c g 5 (qQf g below args s (qrm 25 2 12)) (rk13 v1 v2 v3 v4 s0) 0 0 13 [some (qR 0 0), some (qI v1), some (qI v2), some (qI v3), some (qI v4)] [] s0) (v1 : Int32) (v2 : Int32) (v3 : Int32) (v4 : Int32) (s0 : qS) : qV p l e (qrm 25 2 12) s m args below meth c g 5 (qQf g below args s (qrm 25 2 12)) (b_X7_usageByTasks_13  rk13 v1 v2 v3 v4 s0) 0 0 13 [some (qR 0 0), some (qI v1), some (qI v2), some (qI v3), some (qI v4)] [] s0 :=
  (qv_iload C dX7_usageByTasks_13 rfl (qv_aload_n C dX7_usageByTasks_15 rfl (qv_getR C (j2 := 0) fl_X7_12 cl_X7 rfl (by decide) (by decide) (by decide) rfl rfl dX7_usageByTasks_16 (qv_getI C fl_X7_88 cl_X5 rfl (by decide) (by decide) (by decide) rfl dX7_usageByTasks_19 (qv_icmp_ge C (tgt := 72) dX7_usageByTasks_22 (by decide) (fun _ => (qv_iload_n C dX7_usageByTasks_72 rfl (qv_iret C hret dX7_usageByTasks_73)))
  (fun _ => (qv_aload_n C dX7_usageByTasks_25 rfl (qv_getR C (j2 := 0) fl_X7_12 cl_X7 rfl (by decide) (by decide) (by decide) rfl rfl dX7_usageByTasks_26 (qv_getR C (j2 := 0) fl_X7_152 cl_X5 rfl (by decide) (by decide) (by decide) rfl rfl dX7_usageByTasks_29 (qv_iload C dX7_usageByTasks_32 rfl (qv_callS C (rest := []) (cb := 0) (sb := 0) (t_X7_at hl rfl (by decide) (by decide) v4 s0) mw_X7_at lk_X7_115 st_X7_at rfl (Nat.le_of_ble_eq_true rfl) (by decide) dX7_usageByTasks_34 rfl (qkI (fun r1 s3 => (qv_iload_n C dX7_usageByTasks_37 rfl (qv_icmp_ne C (tgt := 66) dX7_usageByTasks_38 (by decide) (fun _ => (qv_aload_n C dX7_usageByTasks_41 rfl (qv_iload C dX7_usageByTasks_42 rfl (qv_iload_n C dX7_usageByTasks_44 rfl (qv_callV C (rest := []) (cb := 0) (sb := 0) (t_X7_isWorkedOn hl v4 v2 s3) mw_X7_isWorkedOn lk_X7_217 in_X7_isWorkedOn se_X7_isWorkedOn rfl (by decide) (by decide) rfl rfl (Nat.le_of_ble_eq_true rfl) (by decide) dX7_usageByTasks_45 rfl (qkI (fun r2 s4 => (qv_if_eq C (tgt := 66) dX7_usageByTasks_48 (by decide) (fun _ => (qv_iinc C (v := (v4 + (1 : Int32))) dX7_usageByTasks_66 rfl rfl (by decide) rfl (qv_goto C (tgt := 13) dX7_usageByTasks_69 (by decide) (qV.weak [true, true, true, true, true] (hrk13 v1 v2 v3 (v4 + (1 : Int32)) s4)))))
  (fun _ => (qv_iload_n C dX7_usageByTasks_51 rfl (qv_aload_n C dX7_usageByTasks_52 rfl (qv_getR C (j2 := 0) fl_X7_12 cl_X7 rfl (by decide) (by decide) (by decide) rfl rfl dX7_usageByTasks_53 (qv_getR C (j2 := 0) fl_X7_155 cl_X5 rfl (by decide) (by decide) (by decide) rfl rfl dX7_usageByTasks_56 (qv_iload C dX7_usageByTasks_59 rfl (qv_callS C (rest := [qI v3]) (cb := 0) (sb := 0) (t_X7_at hl rfl (by decide) (by decide) v4 s4) mw_X7_at lk_X7_115 st_X7_at rfl (Nat.le_of_ble_eq_true rfl) (by decide) dX7_usageByTasks_61 rfl (qkI (fun r3 s5 => (qv_iadd C dX7_usageByTasks_64 (qv_istore_n C dX7_usageByTasks_65 (by decide) rfl (qv_iinc C (v := (v4 + (1 : Int32))) dX7_usageByTasks_66 rfl rfl (by decide) rfl (qv_goto C (tgt := 13) dX7_usageByTasks_69 (by decide) (qV.weak [true, true, true, true, true] (hrk13 v1 v2 (v3 + r3) (v4 + (1 : Int32)) s5)))))))))))))))))))))))
  (fun _ => (qv_iinc C (v := (v4 + (1 : Int32))) dX7_usageByTasks_66 rfl rfl (by decide) rfl (qv_goto C (tgt := 13) dX7_usageByTasks_69 (by decide) (qV.weak [true, true, true, true, true] (hrk13 v1 v2 v3 (v4 + (1 : Int32)) s3))))))))))))))))))))
theorem lt_X7_usageByTasks_13 {p : Program} {l : Launch} {e : Env} {s : State} {m : MethodId} {args : Array Value} {below : List Frame} {meth : Method} {c : Code} {g : qG} (hl : l.stackTraces = false) (C : qC p l s m meth c cX7_usageByTasks 5 RX7 g) (hret : meth.sig.returnType = (some .int)) (ht : ∀ x ∈ c.exceptionTable.toList, False)  : ∀ (n : Nat) (v1 : Int32) (v2 : Int32) (v3 : Int32) (v4 : Int32) (s0 : qS), qV p l e (qrm 25 2 12) s m args below meth c g 5 (qQf g below args s (qrm 25 2 12)) (l_X7_usageByTasks_13  n v1 v2 v3 v4 s0) 0 0 13 [some (qR 0 0), some (qI v1), some (qI v2), some (qI v3), some (qI v4)] [] s0
  | 0, _, _, _, _, _ => qV.no
  | n + 1, v1, v2, v3, v4, s0 => bt_X7_usageByTasks_13 hl C hret ht  _ (lt_X7_usageByTasks_13 hl C hret ht  n) v1 v2 v3 v4 s0
def f_X7_usageByTasks (a1 : Int32) (a2 : Int32) (s0 : qS) : Option qO :=
  qbind (f_X7_requireResource a1 s0) (qvV (fun s1 =>
  qbind (f_X7_requireDay a2 s1) (qvV (fun s2 =>
  l_X7_usageByTasks_13  qFU a1 a2 (0 : Int32) (0 : Int32) s2)) qE1)) qE1
set_option maxRecDepth 100000 in
set_option maxHeartbeats 4000000 in
theorem t_X7_usageByTasks {g : qG} {l : Launch} (hl : l.stackTraces = false) (a1 : Int32) (a2 : Int32) (s0 : qS) : qM g l 25 2 12 (.code yX7_usageByTasks cX7_usageByTasks 5 (some .int)) yX7_usageByTasks [qR 0 0, qI a1, qI a2] s0 (f_X7_usageByTasks a1 a2 s0) := by
  refine qM_of (by decide +kernel) hl (List.forall_mem_cons.mpr ⟨rfl, (List.forall_mem_cons.mpr ⟨rfl, (List.forall_mem_cons.mpr ⟨rfl, (fun _ h => absurd h List.not_mem_nil)⟩)⟩)⟩) (Nat.le_of_ble_eq_true rfl) ?_
  intro p e s m args below meth c C hret ht
  show qV p l e _ s m args below meth c g _ _ _ _ _ 0 [some (qR 0 0), some (qI a1), some (qI a2), none, none] [] s0
  exact (qv_iload_n C dX7_usageByTasks_0 rfl (qt_callS C (rest := []) (cb := 1) (sb := 6) (t_X7_requireResource hl a1 s0) mw_X7_requireResource lk_X7_158 st_X7_requireResource rfl (Nat.le_of_ble_eq_true rfl) (by decide) dX7_usageByTasks_1 rfl ht (qkV (fun s1 => (qv_iload_n C dX7_usageByTasks_4 rfl (qt_callS C (rest := []) (cb := 0) (sb := 0) (t_X7_requireDay hl a2 s1) mw_X7_requireDay lk_X7_210 st_X7_requireDay rfl (Nat.le_of_ble_eq_true rfl) (by decide) dX7_usageByTasks_5 rfl ht (qkV (fun s2 => (qv_iconst C (v := (0 : Int32)) dX7_usageByTasks_8 (by decide) (qv_istore_n C dX7_usageByTasks_9 (by decide) rfl (qv_iconst C (v := (0 : Int32)) dX7_usageByTasks_10 (by decide) (qv_istore C dX7_usageByTasks_11 (by decide) rfl (qV.weak [true, true, true, true, true] (lt_X7_usageByTasks_13 hl C hret ht  qFU a1 a2 (0 : Int32) (0 : Int32) s2))))))))))))))
