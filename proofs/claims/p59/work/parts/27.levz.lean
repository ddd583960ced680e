/-! the class, where it does not throw (printed by wip/whole/gen) -/
def f_X7_refuseZ (a1 : Int32) (s0 : qS) : Option qO :=
  (if a1 = (105 : Int32) then none else
  (if a1 = (97 : Int32) then none else
  (if a1 = (115 : Int32) then none else
  (if a1 = (117 : Int32) then none else
  (some (.inl none, s0))))))
set_option maxRecDepth 100000 in
set_option maxHeartbeats 4000000 in
theorem t_X7_refuseZ {g : qG} {l : Launch} (hl : l.stackTraces = false) (a1 : Int32) (s0 : qS) : qM g l 1 0 0 (.code yX7_refuse cX7_refuse 1 none) yX7_refuse [qI a1] s0 (f_X7_refuseZ a1 s0) := by
  refine qM_of (by decide +kernel) hl (List.forall_mem_cons.mpr ⟨rfl, (fun _ h => absurd h List.not_mem_nil)⟩) (Nat.le_of_ble_eq_true rfl) ?_
  intro p e s m args below meth c C hret ht
  show qV p l e _ s m args below meth c g _ _ _ _ _ 0 [some (qI a1)] [] s0
  exact (qv_iload_n C dX7_refuse_0 rfl (qv_bipush C (v := (105 : Int32)) dX7_refuse_1 (by decide) (qv_icmp_ne C (tgt := 17) dX7_refuse_3 (by decide) (fun _ => qV.no)
  (fun _ => (qv_iload_n C dX7_refuse_17 rfl (qv_bipush C (v := (97 : Int32)) dX7_refuse_18 (by decide) (qv_icmp_ne C (tgt := 34) dX7_refuse_20 (by decide) (fun _ => qV.no)
  (fun _ => (qv_iload_n C dX7_refuse_34 rfl (qv_bipush C (v := (115 : Int32)) dX7_refuse_35 (by decide) (qv_icmp_ne C (tgt := 51) dX7_refuse_37 (by decide) (fun _ => qV.no)
  (fun _ => (qv_iload_n C dX7_refuse_51 rfl (qv_bipush C (v := (117 : Int32)) dX7_refuse_52 (by decide) (qv_icmp_ne C (tgt := 68) dX7_refuse_54 (by decide) (fun _ => qV.no)
  (fun _ => (qv_vret C hret dX7_refuse_68)))))))))))))))))
def f_X7_requireTaskZ (a1 : Int32) (s0 : qS) : Option qO :=
  qbind (f_X5_faultOfTask 0 a1 s0) (qvI (fun r1 s1 =>
  qbind (f_X7_refuseZ r1 s1) (qvV (fun s2 =>
  (some (.inl none, s2)))) qE0)) qE0
set_option maxRecDepth 100000 in
set_option maxHeartbeats 4000000 in
theorem t_X7_requireTaskZ {g : qG} {l : Launch} (hl : l.stackTraces = false) (a1 : Int32) (s0 : qS) : qM g l 3 0 0 (.code yX7_requireTask cX7_requireTask 2 none) yX7_requireTask [qR 0 0, qI a1] s0 (f_X7_requireTaskZ a1 s0) := by
  refine qM_of (by decide +kernel) hl (List.forall_mem_cons.mpr ⟨rfl, (List.forall_mem_cons.mpr ⟨rfl, (fun _ h => absurd h List.not_mem_nil)⟩)⟩) (Nat.le_of_ble_eq_true rfl) ?_
  intro p e s m args below meth c C hret ht
  show qV p l e _ s m args below meth c g _ _ _ _ _ 0 [some (qR 0 0), some (qI a1)] [] s0
  exact (qv_aload_n C dX7_requireTask_0 rfl (qv_getR C (j2 := 0) fl_X7_12 cl_X7 rfl (by decide) (by decide) (by decide) rfl rfl dX7_requireTask_1 (qv_iload_n C dX7_requireTask_4 rfl (qv_callVN C (rest := []) (cb := 0) (sb := 0) (t_X5_faultOfTask hl (show 0 < 11 from (by decide)) a1 s0) mw_X5_faultOfTask lk_X7_80 in_X5_faultOfTask se_X5_faultOfTask rfl (by decide) (by decide) rfl rfl (Nat.le_of_ble_eq_true rfl) (by decide) dX7_requireTask_5 rfl (qkI (fun r1 s1 => (qv_callS C (rest := []) (cb := 0) (sb := 0) (t_X7_refuseZ hl r1 s1) mw_X7_refuse lk_X7_69 st_X7_refuse rfl (Nat.le_of_ble_eq_true rfl) (by decide) dX7_requireTask_8 rfl (qkV (fun s2 => (qv_vret C hret dX7_requireTask_11))))))))))
def f_X7_requireResourceZ (a1 : Int32) (s0 : qS) : Option qO :=
  qbind (f_X7_isWithin a1 (0 : Int32) (2 : Int32) s0) (qvI (fun r1 s1 =>
  (if r1 = 0 then none else
  (some (.inl none, s1))))) qE0
set_option maxRecDepth 100000 in
set_option maxHeartbeats 4000000 in
theorem t_X7_requireResourceZ {g : qG} {l : Launch} (hl : l.stackTraces = false) (a1 : Int32) (s0 : qS) : qM g l 2 0 0 (.code yX7_requireResource cX7_requireResource 1 none) yX7_requireResource [qI a1] s0 (f_X7_requireResourceZ a1 s0) := by
  refine qM_of (by decide +kernel) hl (List.forall_mem_cons.mpr ⟨rfl, (fun _ h => absurd h List.not_mem_nil)⟩) (Nat.le_of_ble_eq_true rfl) ?_
  intro p e s m args below meth c C hret ht
  show qV p l e _ s m args below meth c g _ _ _ _ _ 0 [some (qI a1)] [] s0
  exact (qv_iload_n C dX7_requireResource_0 rfl (qv_iconst C (v := (0 : Int32)) dX7_requireResource_1 (by decide) (qv_iconst C (v := (2 : Int32)) dX7_requireResource_2 (by decide) (qv_callS C (rest := []) (cb := 0) (sb := 0) (t_X7_isWithin hl a1 (0 : Int32) (2 : Int32) s0) mw_X7_isWithin lk_X7_179 st_X7_isWithin rfl (Nat.le_of_ble_eq_true rfl) (by decide) dX7_requireResource_3 rfl (qkI (fun r1 s1 => (qv_if_ne C (tgt := 20) dX7_requireResource_6 (by decide) (fun _ => qV.no)
  (fun _ => (qv_vret C hret dX7_requireResource_20)))))))))
def f_X7_requireDayZ (a1 : Int32) (s0 : qS) : Option qO :=
  (if 0 ≤ a1 then (some (.inl none, s0)) else
  none)
set_option maxRecDepth 100000 in
set_option maxHeartbeats 4000000 in
theorem t_X7_requireDayZ {g : qG} {l : Launch} (hl : l.stackTraces = false) (a1 : Int32) (s0 : qS) : qM g l 1 0 0 (.code yX7_requireDay cX7_requireDay 1 none) yX7_requireDay [qI a1] s0 (f_X7_requireDayZ a1 s0) := by
  refine qM_of (by decide +kernel) hl (List.forall_mem_cons.mpr ⟨rfl, (fun _ h => absurd h List.not_mem_nil)⟩) (Nat.le_of_ble_eq_true rfl) ?_
  intro p e s m args below meth c C hret ht
  show qV p l e _ s m args below meth c g _ _ _ _ _ 0 [some (qI a1)] [] s0
  exact (qv_iload_n C dX7_requireDay_0 rfl (qv_if_ge C (tgt := 15) dX7_requireDay_1 (by decide) (fun _ => (qv_vret C hret dX7_requireDay_15))
  (fun _ => qV.no)))
def b_X7_taskAtRankZ_2 (rk2 : Int32 → Int32 → qS → Option qO) (v1 : Int32) (v2 : Int32) (s0 : qS) : Option qO :=
  (if (s0 1 0 7) ≤ v2 then none else
  qbind (f_X7_countBefore v2 s0) (qvI (fun r1 s1 =>
  (if r1 = v1 then (some (.inl (some (qI v2)), s1)) else
  rk2 v1 (v2 + (1 : Int32)) s1))) qE0)
def l_X7_taskAtRankZ_2 : Nat → Int32 → Int32 → qS → Option qO
  | 0, _, _, _ => none
  | n + 1, v1, v2, s0 => b_X7_taskAtRankZ_2  (l_X7_taskAtRankZ_2  n) v1 v2 s0
set_option maxRecDepth 100000 in
set_option maxHeartbeats 4000000 in
theorem bt_X7_taskAtRankZ_2 {p : Program} {l : Launch} {e : Env} {s : State} {m : MethodId} {args : Array Value} {below : List Frame} {meth : Method} {c : Code} {g : qG} (hl : l.stackTraces = false) (C : qC p l s m meth c cX7_taskAtRank 3 RX7 g) (hret : meth.sig.returnType = (some .int)) (ht : ∀ x ∈ c.exceptionTable.toList, False)  (rk2 : Int32 → Int32 → qS → Option qO) (hrk2 : ∀ (v1 : Int32) (v2 : Int32) (s0 : qS), qV p l e (qrm 3 0 0) s m args below meth c g 3 (qQf g below args s (qrm 3 0 0)) (rk2 v1 v2 s0) 0 0 2 [some (qR 0 0), some (qI v1), some (qI v2)] [] s0) (v1 : Int32) (v2 : Int32) (s0 : qS) : qV p l e (qrm 3 0 0) s m args below meth c g 3 (qQf g below args s (qrm 3 0 0)) (b_X7_taskAtRankZ_2  rk2 v1 v2 s0) 0 0 2 [some (qR 0 0), some (qI v1), some (qI v2)] [] s0 :=
  (qv_iload_n C dX7_taskAtRank_2 rfl (qv_aload_n C dX7_taskAtRank_3 rfl (qv_getR C (j2 := 0) fl_X7_12 cl_X7 rfl (by decide) (by decide) (by decide) rfl rfl dX7_taskAtRank_4 (qv_getI C fl_X7_88 cl_X5 rfl (by decide) (by decide) (by decide) rfl dX7_taskAtRank_7 (qv_icmp_ge C (tgt := 30) dX7_taskAtRank_10 (by decide) (fun _ => qV.no)
  (fun _ => (qv_aload_n C dX7_taskAtRank_13 rfl (qv_iload_n C dX7_taskAtRank_14 rfl (qv_callV C (rest := []) (cb := 0) (sb := 0) (t_X7_countBefore hl v2 s0) mw_X7_countBefore lk_X7_385 in_X7_countBefore se_X7_countBefore rfl (by decide) (by decide) rfl rfl (Nat.le_of_ble_eq_true rfl) (by decide) dX7_taskAtRank_15 rfl (qkI (fun r1 s1 => (qv_iload_n C dX7_taskAtRank_18 rfl (qv_icmp_ne C (tgt := 24) dX7_taskAtRank_19 (by decide) (fun _ => (qv_iload_n C dX7_taskAtRank_22 rfl (qv_iret C hret dX7_taskAtRank_23)))
  (fun _ => (qv_iinc C (v := (v2 + (1 : Int32))) dX7_taskAtRank_24 rfl rfl (by decide) rfl (qv_goto C (tgt := 2) dX7_taskAtRank_27 (by decide) (qV.weak [true, true, true] (hrk2 v1 (v2 + (1 : Int32)) s1))))))))))))))))))
theorem lt_X7_taskAtRankZ_2 {p : Program} {l : Launch} {e : Env} {s : State} {m : MethodId} {args : Array Value} {below : List Frame} {meth : Method} {c : Code} {g : qG} (hl : l.stackTraces = false) (C : qC p l s m meth c cX7_taskAtRank 3 RX7 g) (hret : meth.sig.returnType = (some .int)) (ht : ∀ x ∈ c.exceptionTable.toList, False)  : ∀ (n : Nat) (v1 : Int32) (v2 : Int32) (s0 : qS), qV p l e (qrm 3 0 0) s m args below meth c g 3 (qQf g below args s (qrm 3 0 0)) (l_X7_taskAtRankZ_2  n v1 v2 s0) 0 0 2 [some (qR 0 0), some (qI v1), some (qI v2)] [] s0
  | 0, _, _, _ => qV.no
  | n + 1, v1, v2, s0 => bt_X7_taskAtRankZ_2 hl C hret ht  _ (lt_X7_taskAtRankZ_2 hl C hret ht  n) v1 v2 s0
def f_X7_taskAtRankZ (a1 : Int32) (s0 : qS) : Option qO :=
  l_X7_taskAtRankZ_2  qFU a1 (0 : Int32) s0
set_option maxRecDepth 100000 in
set_option maxHeartbeats 4000000 in
theorem t_X7_taskAtRankZ {g : qG} {l : Launch} (hl : l.stackTraces = false) (a1 : Int32) (s0 : qS) : qM g l 3 0 0 (.code yX7_taskAtRank cX7_taskAtRank 3 (some .int)) yX7_taskAtRank [qR 0 0, qI a1] s0 (f_X7_taskAtRankZ a1 s0) := by
  refine qM_of (by decide +kernel) hl (List.forall_mem_cons.mpr ⟨rfl, (List.forall_mem_cons.mpr ⟨rfl, (fun _ h => absurd h List.not_mem_nil)⟩)⟩) (Nat.le_of_ble_eq_true rfl) ?_
  intro p e s m args below meth c C hret ht
  show qV p l e _ s m args below meth c g _ _ _ _ _ 0 [some (qR 0 0), some (qI a1), none] [] s0
  exact (qv_iconst C (v := (0 : Int32)) dX7_taskAtRank_0 (by decide) (qv_istore_n C dX7_taskAtRank_1 (by decide) rfl (qV.weak [true, true, true] (lt_X7_taskAtRankZ_2 hl C hret ht  qFU a1 (0 : Int32) s0))))
def f_X7_durationZ (a1 : Int32) (s0 : qS) : Option qO :=
  qbind (f_X7_requireTaskZ a1 s0) (qvV (fun s1 =>
  qbind (f_X7_at 2 0 a1 s1) (qvI (fun r1 s2 =>
  (some (.inl (some (qI r1)), s2)))) qE0)) qE0
set_option maxRecDepth 100000 in
set_option maxHeartbeats 4000000 in
theorem t_X7_durationZ {g : qG} {l : Launch} (hl : l.stackTraces = false) (a1 : Int32) (s0 : qS) : qM g l 4 0 0 (.code yX7_duration cX7_duration 2 (some .int)) yX7_duration [qR 0 0, qI a1] s0 (f_X7_durationZ a1 s0) := by
  refine qM_of (by decide +kernel) hl (List.forall_mem_cons.mpr ⟨rfl, (List.forall_mem_cons.mpr ⟨rfl, (fun _ h => absurd h List.not_mem_nil)⟩)⟩) (Nat.le_of_ble_eq_true rfl) ?_
  intro p e s m args below meth c C hret ht
  show qV p l e _ s m args below meth c g _ _ _ _ _ 0 [some (qR 0 0), some (qI a1)] [] s0
  exact (qv_aload_n C dX7_duration_0 rfl (qv_iload_n C dX7_duration_1 rfl (qv_callV C (rest := []) (cb := 0) (sb := 0) (t_X7_requireTaskZ hl a1 s0) mw_X7_requireTask lk_X7_149 in_X7_requireTask se_X7_requireTask rfl (by decide) (by decide) rfl rfl (Nat.le_of_ble_eq_true rfl) (by decide) dX7_duration_2 rfl (qkV (fun s1 => (qv_aload_n C dX7_duration_5 rfl (qv_getR C (j2 := 0) fl_X7_12 cl_X7 rfl (by decide) (by decide) (by decide) rfl rfl dX7_duration_6 (qv_getR C (j2 := 0) fl_X7_112 cl_X5 rfl (by decide) (by decide) (by decide) rfl rfl dX7_duration_9 (qv_iload_n C dX7_duration_12 rfl (qv_callS C (rest := []) (cb := 0) (sb := 0) (t_X7_at hl rfl (by decide) (by decide) a1 s1) mw_X7_at lk_X7_115 st_X7_at rfl (Nat.le_of_ble_eq_true rfl) (by decide) dX7_duration_13 rfl (qkI (fun r1 s2 => (qv_iret C hret dX7_duration_16)))))))))))))
def f_X7_resourceZ (a1 : Int32) (s0 : qS) : Option qO :=
  qbind (f_X7_requireTaskZ a1 s0) (qvV (fun s1 =>
  qbind (f_X7_at 3 0 a1 s1) (qvI (fun r1 s2 =>
  (some (.inl (some (qI r1)), s2)))) qE0)) qE0
set_option maxRecDepth 100000 in
set_option maxHeartbeats 4000000 in
theorem t_X7_resourceZ {g : qG} {l : Launch} (hl : l.stackTraces = false) (a1 : Int32) (s0 : qS) : qM g l 4 0 0 (.code yX7_resource cX7_resource 2 (some .int)) yX7_resource [qR 0 0, qI a1] s0 (f_X7_resourceZ a1 s0) := by
  refine qM_of (by decide +kernel) hl (List.forall_mem_cons.mpr ⟨rfl, (List.forall_mem_cons.mpr ⟨rfl, (fun _ h => absurd h List.not_mem_nil)⟩)⟩) (Nat.le_of_ble_eq_true rfl) ?_
  intro p e s m args below meth c C hret ht
  show qV p l e _ s m args below meth c g _ _ _ _ _ 0 [some (qR 0 0), some (qI a1)] [] s0
  exact (qv_aload_n C dX7_resource_0 rfl (qv_iload_n C dX7_resource_1 rfl (qv_callV C (rest := []) (cb := 0) (sb := 0) (t_X7_requireTaskZ hl a1 s0) mw_X7_requireTask lk_X7_149 in_X7_requireTask se_X7_requireTask rfl (by decide) (by decide) rfl rfl (Nat.le_of_ble_eq_true rfl) (by decide) dX7_resource_2 rfl (qkV (fun s1 => (qv_aload_n C dX7_resource_5 rfl (qv_getR C (j2 := 0) fl_X7_12 cl_X7 rfl (by decide) (by decide) (by decide) rfl rfl dX7_resource_6 (qv_getR C (j2 := 0) fl_X7_152 cl_X5 rfl (by decide) (by decide) (by decide) rfl rfl dX7_resource_9 (qv_iload_n C dX7_resource_12 rfl (qv_callS C (rest := []) (cb := 0) (sb := 0) (t_X7_at hl rfl (by decide) (by decide) a1 s1) mw_X7_at lk_X7_115 st_X7_at rfl (Nat.le_of_ble_eq_true rfl) (by decide) dX7_resource_13 rfl (qkI (fun r1 s2 => (qv_iret C hret dX7_resource_16)))))))))))))
def f_X7_demandZ (a1 : Int32) (s0 : qS) : Option qO :=
  qbind (f_X7_requireTaskZ a1 s0) (qvV (fun s1 =>
  qbind (f_X7_at 4 0 a1 s1) (qvI (fun r1 s2 =>
  (some (.inl (some (qI r1)), s2)))) qE0)) qE0
set_option maxRecDepth 100000 in
set_option maxHeartbeats 4000000 in
theorem t_X7_demandZ {g : qG} {l : Launch} (hl : l.stackTraces = false) (a1 : Int32) (s0 : qS) : qM g l 4 0 0 (.code yX7_demand cX7_demand 2 (some .int)) yX7_demand [qR 0 0, qI a1] s0 (f_X7_demandZ a1 s0) := by
  refine qM_of (by decide +kernel) hl (List.forall_mem_cons.mpr ⟨rfl, (List.forall_mem_cons.mpr ⟨rfl, (fun _ h => absurd h List.not_mem_nil)⟩)⟩) (Nat.le_of_ble_eq_true rfl) ?_
  intro p e s m args below meth c C hret ht
  show qV p l e _ s m args below meth c g _ _ _ _ _ 0 [some (qR 0 0), some (qI a1)] [] s0
  exact (qv_aload_n C dX7_demand_0 rfl (qv_iload_n C dX7_demand_1 rfl (qv_callV C (rest := []) (cb := 0) (sb := 0) (t_X7_requireTaskZ hl a1 s0) mw_X7_requireTask lk_X7_149 in_X7_requireTask se_X7_requireTask rfl (by decide) (by decide) rfl rfl (Nat.le_of_ble_eq_true rfl) (by decide) dX7_demand_2 rfl (qkV (fun s1 => (qv_aload_n C dX7_demand_5 rfl (qv_getR C (j2 := 0) fl_X7_12 cl_X7 rfl (by decide) (by decide) (by decide) rfl rfl dX7_demand_6 (qv_getR C (j2 := 0) fl_X7_155 cl_X5 rfl (by decide) (by decide) (by decide) rfl rfl dX7_demand_9 (qv_iload_n C dX7_demand_12 rfl (qv_callS C (rest := []) (cb := 0) (sb := 0) (t_X7_at hl rfl (by decide) (by decide) a1 s1) mw_X7_at lk_X7_115 st_X7_at rfl (Nat.le_of_ble_eq_true rfl) (by decide) dX7_demand_13 rfl (qkI (fun r1 s2 => (qv_iret C hret dX7_demand_16)))))))))))))
def f_X7_releaseZ (a1 : Int32) (s0 : qS) : Option qO :=
  qbind (f_X7_requireTaskZ a1 s0) (qvV (fun s1 =>
  qbind (f_X7_at 5 0 a1 s1) (qvI (fun r1 s2 =>
  (some (.inl (some (qI r1)), s2)))) qE0)) qE0
set_option maxRecDepth 100000 in
set_option maxHeartbeats 4000000 in
theorem t_X7_releaseZ {g : qG} {l : Launch} (hl : l.stackTraces = false) (a1 : Int32) (s0 : qS) : qM g l 4 0 0 (.code yX7_release cX7_release 2 (some .int)) yX7_release [qR 0 0, qI a1] s0 (f_X7_releaseZ a1 s0) := by
  refine qM_of (by decide +kernel) hl (List.forall_mem_cons.mpr ⟨rfl, (List.forall_mem_cons.mpr ⟨rfl, (fun _ h => absurd h List.not_mem_nil)⟩)⟩) (Nat.le_of_ble_eq_true rfl) ?_
  intro p e s m args below meth c C hret ht
  show qV p l e _ s m args below meth c g _ _ _ _ _ 0 [some (qR 0 0), some (qI a1)] [] s0
  exact (qv_aload_n C dX7_release_0 rfl (qv_iload_n C dX7_release_1 rfl (qv_callV C (rest := []) (cb := 0) (sb := 0) (t_X7_requireTaskZ hl a1 s0) mw_X7_requireTask lk_X7_149 in_X7_requireTask se_X7_requireTask rfl (by decide) (by decide) rfl rfl (Nat.le_of_ble_eq_true rfl) (by decide) dX7_release_2 rfl (qkV (fun s1 => (qv_aload_n C dX7_release_5 rfl (qv_getR C (j2 := 0) fl_X7_12 cl_X7 rfl (by decide) (by decide) (by decide) rfl rfl dX7_release_6 (qv_getR C (j2 := 0) fl_X7_126 cl_X5 rfl (by decide) (by decide) (by decide) rfl rfl dX7_release_9 (qv_iload_n C dX7_release_12 rfl (qv_callS C (rest := []) (cb := 0) (sb := 0) (t_X7_at hl rfl (by decide) (by decide) a1 s1) mw_X7_at lk_X7_115 st_X7_at rfl (Nat.le_of_ble_eq_true rfl) (by decide) dX7_release_13 rfl (qkI (fun r1 s2 => (qv_iret C hret dX7_release_16)))))))))))))
def f_X7_limitZ (a1 : Int32) (s0 : qS) : Option qO :=
  qbind (f_X7_requireResourceZ a1 s0) (qvV (fun s1 =>
  qbind (f_X7_at 8 0 a1 s1) (qvI (fun r1 s2 =>
  (some (.inl (some (qI r1)), s2)))) qE0)) qE0
set_option maxRecDepth 100000 in
set_option maxHeartbeats 4000000 in
theorem t_X7_limitZ {g : qG} {l : Launch} (hl : l.stackTraces = false) (a1 : Int32) (s0 : qS) : qM g l 3 0 0 (.code yX7_limit cX7_limit 2 (some .int)) yX7_limit [qR 0 0, qI a1] s0 (f_X7_limitZ a1 s0) := by
  refine qM_of (by decide +kernel) hl (List.forall_mem_cons.mpr ⟨rfl, (List.forall_mem_cons.mpr ⟨rfl, (fun _ h => absurd h List.not_mem_nil)⟩)⟩) (Nat.le_of_ble_eq_true rfl) ?_
  intro p e s m args below meth c C hret ht
  show qV p l e _ s m args below meth c g _ _ _ _ _ 0 [some (qR 0 0), some (qI a1)] [] s0
  exact (qv_iload_n C dX7_limit_0 rfl (qv_callS C (rest := []) (cb := 0) (sb := 0) (t_X7_requireResourceZ hl a1 s0) mw_X7_requireResource lk_X7_158 st_X7_requireResource rfl (Nat.le_of_ble_eq_true rfl) (by decide) dX7_limit_1 rfl (qkV (fun s1 => (qv_aload_n C dX7_limit_4 rfl (qv_getR C (j2 := 0) fl_X7_12 cl_X7 rfl (by decide) (by decide) (by decide) rfl rfl dX7_limit_5 (qv_getR C (j2 := 0) fl_X7_132 cl_X5 rfl (by decide) (by decide) (by decide) rfl rfl dX7_limit_8 (qv_iload_n C dX7_limit_11 rfl (qv_callS C (rest := []) (cb := 0) (sb := 0) (t_X7_at hl rfl (by decide) (by decide) a1 s1) mw_X7_at lk_X7_115 st_X7_at rfl (Nat.le_of_ble_eq_true rfl) (by decide) dX7_limit_12 rfl (qkI (fun r1 s2 => (qv_iret C hret dX7_limit_15))))))))))))
def f_X7_dependsDirectlyZ (a1 : Int32) (a2 : Int32) (s0 : qS) : Option qO :=
  qbind (f_X7_requireTaskZ a1 s0) (qvV (fun s1 =>
  qbind (f_X7_requireTaskZ a2 s1) (qvV (fun s2 =>
  qbind (f_X5_isLinked 0 a1 a2 s2) (qvI (fun r1 s3 =>
  (if qbo r1 then some (.inl (some (qI r1)), s3) else none))) qE0)) qE0)) qE0
set_option maxRecDepth 100000 in
set_option maxHeartbeats 4000000 in
theorem t_X7_dependsDirectlyZ {g : qG} {l : Launch} (hl : l.stackTraces = false) (a1 : Int32) (a2 : Int32) (s0 : qS) : qM g l 4 0 0 (.code yX7_dependsDirectly cX7_dependsDirectly 3 (some .boolean)) yX7_dependsDirectly [qR 0 0, qI a1, qI a2] s0 (f_X7_dependsDirectlyZ a1 a2 s0) := by
  refine qM_of (by decide +kernel) hl (List.forall_mem_cons.mpr ⟨rfl, (List.forall_mem_cons.mpr ⟨rfl, (List.forall_mem_cons.mpr ⟨rfl, (fun _ h => absurd h List.not_mem_nil)⟩)⟩)⟩) (Nat.le_of_ble_eq_true rfl) ?_
  intro p e s m args below meth c C hret ht
  show qV p l e _ s m args below meth c g _ _ _ _ _ 0 [some (qR 0 0), some (qI a1), some (qI a2)] [] s0
  exact (qv_aload_n C dX7_dependsDirectly_0 rfl (qv_iload_n C dX7_dependsDirectly_1 rfl (qv_callV C (rest := []) (cb := 0) (sb := 0) (t_X7_requireTaskZ hl a1 s0) mw_X7_requireTask lk_X7_149 in_X7_requireTask se_X7_requireTask rfl (by decide) (by decide) rfl rfl (Nat.le_of_ble_eq_true rfl) (by decide) dX7_dependsDirectly_2 rfl (qkV (fun s1 => (qv_aload_n C dX7_dependsDirectly_5 rfl (qv_iload_n C dX7_dependsDirectly_6 rfl (qv_callV C (rest := []) (cb := 0) (sb := 0) (t_X7_requireTaskZ hl a2 s1) mw_X7_requireTask lk_X7_149 in_X7_requireTask se_X7_requireTask rfl (by decide) (by decide) rfl rfl (Nat.le_of_ble_eq_true rfl) (by decide) dX7_dependsDirectly_7 rfl (qkV (fun s2 => (qv_aload_n C dX7_dependsDirectly_10 rfl (qv_getR C (j2 := 0) fl_X7_12 cl_X7 rfl (by decide) (by decide) (by decide) rfl rfl dX7_dependsDirectly_11 (qv_iload_n C dX7_dependsDirectly_14 rfl (qv_iload_n C dX7_dependsDirectly_15 rfl (qv_callVN C (rest := []) (cb := 0) (sb := 0) (t_X5_isLinked hl (show 0 < 11 from (by decide)) a1 a2 s2) mw_X5_isLinked lk_X7_95 in_X5_isLinked se_X5_isLinked rfl (by decide) (by decide) rfl rfl (Nat.le_of_ble_eq_true rfl) (by decide) dX7_dependsDirectly_16 rfl (qkI (fun r1 s3 => (qv_bret C hret dX7_dependsDirectly_19))))))))))))))))))
def f_X7_dependsZ (a1 : Int32) (a2 : Int32) (s0 : qS) : Option qO :=
  qbind (f_X7_requireTaskZ a1 s0) (qvV (fun s1 =>
  qbind (f_X7_requireTaskZ a2 s1) (qvV (fun s2 =>
  qbind (f_X5_reaches 0 a1 a2 s2) (qvI (fun r1 s3 =>
  (if qbo r1 then some (.inl (some (qI r1)), s3) else none))) qE0)) qE0)) qE0
set_option maxRecDepth 100000 in
set_option maxHeartbeats 4000000 in
theorem t_X7_dependsZ {g : qG} {l : Launch} (hl : l.stackTraces = false) (a1 : Int32) (a2 : Int32) (s0 : qS) : qM g l 22 0 0 (.code yX7_depends cX7_depends 3 (some .boolean)) yX7_depends [qR 0 0, qI a1, qI a2] s0 (f_X7_dependsZ a1 a2 s0) := by
  refine qM_of (by decide +kernel) hl (List.forall_mem_cons.mpr ⟨rfl, (List.forall_mem_cons.mpr ⟨rfl, (List.forall_mem_cons.mpr ⟨rfl, (fun _ h => absurd h List.not_mem_nil)⟩)⟩)⟩) (Nat.le_of_ble_eq_true rfl) ?_
  intro p e s m args below meth c C hret ht
  show qV p l e _ s m args below meth c g _ _ _ _ _ 0 [some (qR 0 0), some (qI a1), some (qI a2)] [] s0
  exact (qv_aload_n C dX7_depends_0 rfl (qv_iload_n C dX7_depends_1 rfl (qv_callV C (rest := []) (cb := 0) (sb := 0) (t_X7_requireTaskZ hl a1 s0) mw_X7_requireTask lk_X7_149 in_X7_requireTask se_X7_requireTask rfl (by decide) (by decide) rfl rfl (Nat.le_of_ble_eq_true rfl) (by decide) dX7_depends_2 rfl (qkV (fun s1 => (qv_aload_n C dX7_depends_5 rfl (qv_iload_n C dX7_depends_6 rfl (qv_callV C (rest := []) (cb := 0) (sb := 0) (t_X7_requireTaskZ hl a2 s1) mw_X7_requireTask lk_X7_149 in_X7_requireTask se_X7_requireTask rfl (by decide) (by decide) rfl rfl (Nat.le_of_ble_eq_true rfl) (by decide) dX7_depends_7 rfl (qkV (fun s2 => (qv_aload_n C dX7_depends_10 rfl (qv_getR C (j2 := 0) fl_X7_12 cl_X7 rfl (by decide) (by decide) (by decide) rfl rfl dX7_depends_11 (qv_iload_n C dX7_depends_14 rfl (qv_iload_n C dX7_depends_15 rfl (qv_callVN C (rest := []) (cb := 0) (sb := 0) (t_X5_reaches hl (show 0 < 11 from (by decide)) a1 a2 s2) mw_X5_reaches lk_X7_161 in_X5_reaches se_X5_reaches rfl (by decide) (by decide) rfl rfl (Nat.le_of_ble_eq_true rfl) (by decide) dX7_depends_16 rfl (qkI (fun r1 s3 => (qv_bret C hret dX7_depends_19))))))))))))))))))
def f_X7_dependsByClosureZ (a1 : Int32) (a2 : Int32) (s0 : qS) : Option qO :=
  qbind (f_X7_requireTaskZ a1 s0) (qvV (fun s1 =>
  qbind (f_X7_requireTaskZ a2 s1) (qvV (fun s2 =>
  qbind (f_X7_currentPlan  s2) (qvS 11 (fun s3 =>
  qbind (f_X7_at 13 0 a1 s3) (qvI (fun r1 s4 =>
  qbind (f_X7_hasBit r1 a2 s4) (qvI (fun r2 s5 =>
  (if qbo r2 then some (.inl (some (qI r2)), s5) else none))) qE0)) qE0)) qE0)) qE0)) qE0
set_option maxRecDepth 100000 in
set_option maxHeartbeats 4000000 in
theorem t_X7_dependsByClosureZ {g : qG} {l : Launch} (hl : l.stackTraces = false) (a1 : Int32) (a2 : Int32) (s0 : qS) : qM g l 24 0 0 (.code yX7_dependsByClosure cX7_dependsByClosure 3 (some .boolean)) yX7_dependsByClosure [qR 0 0, qI a1, qI a2] s0 (f_X7_dependsByClosureZ a1 a2 s0) := by
  refine qM_of (by decide +kernel) hl (List.forall_mem_cons.mpr ⟨rfl, (List.forall_mem_cons.mpr ⟨rfl, (List.forall_mem_cons.mpr ⟨rfl, (fun _ h => absurd h List.not_mem_nil)⟩)⟩)⟩) (Nat.le_of_ble_eq_true rfl) ?_
  intro p e s m args below meth c C hret ht
  show qV p l e _ s m args below meth c g _ _ _ _ _ 0 [some (qR 0 0), some (qI a1), some (qI a2)] [] s0
  exact (qv_aload_n C dX7_dependsByClosure_0 rfl (qv_iload_n C dX7_dependsByClosure_1 rfl (qv_callV C (rest := []) (cb := 0) (sb := 0) (t_X7_requireTaskZ hl a1 s0) mw_X7_requireTask lk_X7_149 in_X7_requireTask se_X7_requireTask rfl (by decide) (by decide) rfl rfl (Nat.le_of_ble_eq_true rfl) (by decide) dX7_dependsByClosure_2 rfl (qkV (fun s1 => (qv_aload_n C dX7_dependsByClosure_5 rfl (qv_iload_n C dX7_dependsByClosure_6 rfl (qv_callV C (rest := []) (cb := 0) (sb := 0) (t_X7_requireTaskZ hl a2 s1) mw_X7_requireTask lk_X7_149 in_X7_requireTask se_X7_requireTask rfl (by decide) (by decide) rfl rfl (Nat.le_of_ble_eq_true rfl) (by decide) dX7_dependsByClosure_7 rfl (qkV (fun s2 => (qv_aload_n C dX7_dependsByClosure_10 rfl (qv_callV C (rest := []) (cb := 0) (sb := 0) (t_X7_currentPlan hl  s2) mw_X7_currentPlan lk_X7_135 in_X7_currentPlan se_X7_currentPlan rfl (by decide) (by decide) rfl rfl (Nat.le_of_ble_eq_true rfl) (by decide) dX7_dependsByClosure_11 rfl (qkOne (fun s3 => (qv_getR C (j2 := 0) fl_X7_164 cl_X4 rfl (by decide) (by decide) (by decide) rfl rfl dX7_dependsByClosure_14 (qv_iload_n C dX7_dependsByClosure_17 rfl (qv_callS C (rest := []) (cb := 0) (sb := 0) (t_X7_at hl rfl (by decide) (by decide) a1 s3) mw_X7_at lk_X7_115 st_X7_at rfl (Nat.le_of_ble_eq_true rfl) (by decide) dX7_dependsByClosure_18 rfl (qkI (fun r1 s4 => (qv_iload_n C dX7_dependsByClosure_21 rfl (qv_callS C (rest := []) (cb := 0) (sb := 0) (t_X7_hasBit hl r1 a2 s4) mw_X7_hasBit lk_X7_167 st_X7_hasBit rfl (Nat.le_of_ble_eq_true rfl) (by decide) dX7_dependsByClosure_22 rfl (qkI (fun r2 s5 => (qv_bret C hret dX7_dependsByClosure_25))))))))))))))))))))))))
def f_X7_neededCountZ (a1 : Int32) (s0 : qS) : Option qO :=
  qbind (f_X7_requireTaskZ a1 s0) (qvV (fun s1 =>
  qbind (f_X7_at 6 0 a1 s1) (qvI (fun r1 s2 =>
  qbind (f_J6_bitCount_0f7a4 r1 s2) (qvI (fun r2 s3 =>
  (some (.inl (some (qI r2)), s3)))) qE0)) qE0)) qE0
set_option maxRecDepth 100000 in
set_option maxHeartbeats 4000000 in
theorem t_X7_neededCountZ {g : qG} {l : Launch} (hl : l.stackTraces = false) (a1 : Int32) (s0 : qS) : qM g l 4 0 0 (.code yX7_neededCount cX7_neededCount 2 (some .int)) yX7_neededCount [qR 0 0, qI a1] s0 (f_X7_neededCountZ a1 s0) := by
  refine qM_of (by decide +kernel) hl (List.forall_mem_cons.mpr ⟨rfl, (List.forall_mem_cons.mpr ⟨rfl, (fun _ h => absurd h List.not_mem_nil)⟩)⟩) (Nat.le_of_ble_eq_true rfl) ?_
  intro p e s m args below meth c C hret ht
  show qV p l e _ s m args below meth c g _ _ _ _ _ 0 [some (qR 0 0), some (qI a1)] [] s0
  exact (qv_aload_n C dX7_neededCount_0 rfl (qv_iload_n C dX7_neededCount_1 rfl (qv_callV C (rest := []) (cb := 0) (sb := 0) (t_X7_requireTaskZ hl a1 s0) mw_X7_requireTask lk_X7_149 in_X7_requireTask se_X7_requireTask rfl (by decide) (by decide) rfl rfl (Nat.le_of_ble_eq_true rfl) (by decide) dX7_neededCount_2 rfl (qkV (fun s1 => (qv_aload_n C dX7_neededCount_5 rfl (qv_getR C (j2 := 0) fl_X7_12 cl_X7 rfl (by decide) (by decide) (by decide) rfl rfl dX7_neededCount_6 (qv_getR C (j2 := 0) fl_X7_170 cl_X5 rfl (by decide) (by decide) (by decide) rfl rfl dX7_neededCount_9 (qv_iload_n C dX7_neededCount_12 rfl (qv_callS C (rest := []) (cb := 0) (sb := 0) (t_X7_at hl rfl (by decide) (by decide) a1 s1) mw_X7_at lk_X7_115 st_X7_at rfl (Nat.le_of_ble_eq_true rfl) (by decide) dX7_neededCount_13 rfl (qkI (fun r1 s2 => (qv_callS C (rest := []) (cb := 0) (sb := 0) (t_J6_bitCount_0f7a4 hl r1 s2) mw_J6_bitCount_0f7a4 lk_X7_173 st_J6_bitCount_0f7a4 rfl (Nat.le_of_ble_eq_true rfl) (by decide) dX7_neededCount_16 rfl (qkI (fun r2 s3 => (qv_iret C hret dX7_neededCount_19))))))))))))))))
def b_X7_dependentCountZ_9 (rk9 : Int32 → Int32 → Int32 → qS → Option qO) (v1 : Int32) (v2 : Int32) (v3 : Int32) (s0 : qS) : Option qO :=
  (if (s0 1 0 7) ≤ v3 then (some (.inl (some (qI v2)), s0)) else
  qbind (f_X5_isLinked 0 v3 v1 s0) (qvI (fun r1 s2 =>
  (if r1 = 0 then rk9 v1 v2 (v3 + (1 : Int32)) s2 else
  rk9 v1 (v2 + (1 : Int32)) (v3 + (1 : Int32)) s2))) qE0)
def l_X7_dependentCountZ_9 : Nat → Int32 → Int32 → Int32 → qS → Option qO
  | 0, _, _, _, _ => none
  | n + 1, v1, v2, v3, s0 => b_X7_dependentCountZ_9  (l_X7_dependentCountZ_9  n) v1 v2 v3 s0
set_option maxRecDepth 100000 in
set_option maxHeartbeats 4000000 in
theorem bt_X7_dependentCountZ_9 {p : Program} {l : Launch} {e : Env} {s : State} {m : MethodId} {args : Array Value} {below : List Frame} {meth : Method} {c : Code} {g : qG} (hl : l.stackTraces = false) (C : qC p l s m meth c cX7_dependentCount 4 RX7 g) (hret : meth.sig.returnType = (some .int)) (ht : ∀ x ∈ c.exceptionTable.toList, False)  (rk9 : Int32 → Int32 → Int32 → qS → Option qO) (hrk9 : ∀ (v1 : Int32) (v2 : Int32) (v3 : Int32) (s0 : qS), qV p l e (qrm 4 0 0) s m args below meth c g 4 (qQf g below args s (qrm 4 0 0)) (rk9 v1 v2 v3 s0) 0 0 9 [some (qR 0 0), some (qI v1), some (qI v2), some (qI v3)] [] s0) (v1 : Int32) (v2 : Int32) (v3 : Int32) (s0 : qS) : qV p l e (qrm 4 0 0) s m args below meth c g 4 (qQf g below args s (qrm 4 0 0)) (b_X7_dependentCountZ_9  rk9 v1 v2 v3 s0) 0 0 9 [some (qR 0 0), some (qI v1), some (qI v2), some (qI v3)] [] s0 :=
  (qv_iload_n C dX7_dependentCount_9 rfl (qv_aload_n C dX7_dependentCount_10 rfl (qv_getR C (j2 := 0) fl_X7_12 cl_X7 rfl (by decide) (by decide) (by decide) rfl rfl dX7_dependentCount_11 (qv_getI C fl_X7_88 cl_X5 rfl (by decide) (by decide) (by decide) rfl dX7_dependentCount_14 (qv_icmp_ge C (tgt := 41) dX7_dependentCount_17 (by decide) (fun _ => (qv_iload_n C dX7_dependentCount_41 rfl (qv_iret C hret dX7_dependentCount_42)))
  (fun _ => (qv_aload_n C dX7_dependentCount_20 rfl (qv_getR C (j2 := 0) fl_X7_12 cl_X7 rfl (by decide) (by decide) (by decide) rfl rfl dX7_dependentCount_21 (qv_iload_n C dX7_dependentCount_24 rfl (qv_iload_n C dX7_dependentCount_25 rfl (qv_callVN C (rest := []) (cb := 0) (sb := 0) (t_X5_isLinked hl (show 0 < 11 from (by decide)) v3 v1 s0) mw_X5_isLinked lk_X7_95 in_X5_isLinked se_X5_isLinked rfl (by decide) (by decide) rfl rfl (Nat.le_of_ble_eq_true rfl) (by decide) dX7_dependentCount_26 rfl (qkI (fun r1 s2 => (qv_if_eq C (tgt := 35) dX7_dependentCount_29 (by decide) (fun _ => (qv_iinc C (v := (v3 + (1 : Int32))) dX7_dependentCount_35 rfl rfl (by decide) rfl (qv_goto C (tgt := 9) dX7_dependentCount_38 (by decide) (qV.weak [true, true, true, true] (hrk9 v1 v2 (v3 + (1 : Int32)) s2)))))
  (fun _ => (qv_iinc C (v := (v2 + (1 : Int32))) dX7_dependentCount_32 rfl rfl (by decide) rfl (qv_iinc C (v := (v3 + (1 : Int32))) dX7_dependentCount_35 rfl rfl (by decide) rfl (qv_goto C (tgt := 9) dX7_dependentCount_38 (by decide) (qV.weak [true, true, true, true] (hrk9 v1 (v2 + (1 : Int32)) (v3 + (1 : Int32)) s2))))))))))))))))))))
theorem lt_X7_dependentCountZ_9 {p : Program} {l : Launch} {e : Env} {s : State} {m : MethodId} {args : Array Value} {below : List Frame} {meth : Method} {c : Code} {g : qG} (hl : l.stackTraces = false) (C : qC p l s m meth c cX7_dependentCount 4 RX7 g) (hret : meth.sig.returnType = (some .int)) (ht : ∀ x ∈ c.exceptionTable.toList, False)  : ∀ (n : Nat) (v1 : Int32) (v2 : Int32) (v3 : Int32) (s0 : qS), qV p l e (qrm 4 0 0) s m args below meth c g 4 (qQf g below args s (qrm 4 0 0)) (l_X7_dependentCountZ_9  n v1 v2 v3 s0) 0 0 9 [some (qR 0 0), some (qI v1), some (qI v2), some (qI v3)] [] s0
  | 0, _, _, _, _ => qV.no
  | n + 1, v1, v2, v3, s0 => bt_X7_dependentCountZ_9 hl C hret ht  _ (lt_X7_dependentCountZ_9 hl C hret ht  n) v1 v2 v3 s0
def f_X7_dependentCountZ (a1 : Int32) (s0 : qS) : Option qO :=
  qbind (f_X7_requireTaskZ a1 s0) (qvV (fun s1 =>
  l_X7_dependentCountZ_9  qFU a1 (0 : Int32) (0 : Int32) s1)) qE0
set_option maxRecDepth 100000 in
set_option maxHeartbeats 4000000 in
theorem t_X7_dependentCountZ {g : qG} {l : Launch} (hl : l.stackTraces = false) (a1 : Int32) (s0 : qS) : qM g l 4 0 0 (.code yX7_dependentCount cX7_dependentCount 4 (some .int)) yX7_dependentCount [qR 0 0, qI a1] s0 (f_X7_dependentCountZ a1 s0) := by
  refine qM_of (by decide +kernel) hl (List.forall_mem_cons.mpr ⟨rfl, (List.forall_mem_cons.mpr ⟨rfl, (fun _ h => absurd h List.not_mem_nil)⟩)⟩) (Nat.le_of_ble_eq_true rfl) ?_
  intro p e s m args below meth c C hret ht
  show qV p l e _ s m args below meth c g _ _ _ _ _ 0 [some (qR 0 0), some (qI a1), none, none] [] s0
  exact (qv_aload_n C dX7_dependentCount_0 rfl (qv_iload_n C dX7_dependentCount_1 rfl (qv_callV C (rest := []) (cb := 0) (sb := 0) (t_X7_requireTaskZ hl a1 s0) mw_X7_requireTask lk_X7_149 in_X7_requireTask se_X7_requireTask rfl (by decide) (by decide) rfl rfl (Nat.le_of_ble_eq_true rfl) (by decide) dX7_dependentCount_2 rfl (qkV (fun s1 => (qv_iconst C (v := (0 : Int32)) dX7_dependentCount_5 (by decide) (qv_istore_n C dX7_dependentCount_6 (by decide) rfl (qv_iconst C (v := (0 : Int32)) dX7_dependentCount_7 (by decide) (qv_istore_n C dX7_dependentCount_8 (by decide) rfl (qV.weak [true, true, true, true] (lt_X7_dependentCountZ_9 hl C hret ht  qFU a1 (0 : Int32) (0 : Int32) s1)))))))))))
def f_X7_taskInOrderZ (a1 : Int32) (s0 : qS) : Option qO :=
  qbind (f_X7_isWithin a1 (0 : Int32) ((s0 1 0 7) - (1 : Int32)) s0) (qvI (fun r1 s1 =>
  (if r1 = 0 then none else
  qbind (f_X7_currentPlan  s1) (qvS 11 (fun s2 =>
  qbind (f_X7_at 12 0 a1 s2) (qvI (fun r2 s3 =>
  (some (.inl (some (qI r2)), s3)))) qE0)) qE0))) qE0
set_option maxRecDepth 100000 in
set_option maxHeartbeats 4000000 in
theorem t_X7_taskInOrderZ {g : qG} {l : Launch} (hl : l.stackTraces = false) (a1 : Int32) (s0 : qS) : qM g l 24 0 0 (.code yX7_taskInOrder cX7_taskInOrder 2 (some .int)) yX7_taskInOrder [qR 0 0, qI a1] s0 (f_X7_taskInOrderZ a1 s0) := by
  refine qM_of (by decide +kernel) hl (List.forall_mem_cons.mpr ⟨rfl, (List.forall_mem_cons.mpr ⟨rfl, (fun _ h => absurd h List.not_mem_nil)⟩)⟩) (Nat.le_of_ble_eq_true rfl) ?_
  intro p e s m args below meth c C hret ht
  show qV p l e _ s m args below meth c g _ _ _ _ _ 0 [some (qR 0 0), some (qI a1)] [] s0
  exact (qv_iload_n C dX7_taskInOrder_0 rfl (qv_iconst C (v := (0 : Int32)) dX7_taskInOrder_1 (by decide) (qv_aload_n C dX7_taskInOrder_2 rfl (qv_getR C (j2 := 0) fl_X7_12 cl_X7 rfl (by decide) (by decide) (by decide) rfl rfl dX7_taskInOrder_3 (qv_getI C fl_X7_88 cl_X5 rfl (by decide) (by decide) (by decide) rfl dX7_taskInOrder_6 (qv_iconst C (v := (1 : Int32)) dX7_taskInOrder_9 (by decide) (qv_isub C dX7_taskInOrder_10 (qv_callS C (rest := []) (cb := 0) (sb := 0) (t_X7_isWithin hl a1 (0 : Int32) ((s0 1 0 7) - (1 : Int32)) s0) mw_X7_isWithin lk_X7_179 st_X7_isWithin rfl (Nat.le_of_ble_eq_true rfl) (by decide) dX7_taskInOrder_11 rfl (qkI (fun r1 s1 => (qv_if_ne C (tgt := 27) dX7_taskInOrder_14 (by decide) (fun _ => qV.no)
  (fun _ => (qv_aload_n C dX7_taskInOrder_27 rfl (qv_callV C (rest := []) (cb := 0) (sb := 0) (t_X7_currentPlan hl  s1) mw_X7_currentPlan lk_X7_135 in_X7_currentPlan se_X7_currentPlan rfl (by decide) (by decide) rfl rfl (Nat.le_of_ble_eq_true rfl) (by decide) dX7_taskInOrder_28 rfl (qkOne (fun s2 => (qv_getR C (j2 := 0) fl_X7_190 cl_X4 rfl (by decide) (by decide) (by decide) rfl rfl dX7_taskInOrder_31 (qv_iload_n C dX7_taskInOrder_34 rfl (qv_callS C (rest := []) (cb := 0) (sb := 0) (t_X7_at hl rfl (by decide) (by decide) a1 s2) mw_X7_at lk_X7_115 st_X7_at rfl (Nat.le_of_ble_eq_true rfl) (by decide) dX7_taskInOrder_35 rfl (qkI (fun r2 s3 => (qv_iret C hret dX7_taskInOrder_38))))))))))))))))))))))
def f_X7_earliestStartZ (a1 : Int32) (s0 : qS) : Option qO :=
  qbind (f_X7_requireTaskZ a1 s0) (qvV (fun s1 =>
  qbind (f_X7_currentPlan  s1) (qvS 11 (fun s2 =>
  qbind (f_X7_at 14 0 a1 s2) (qvI (fun r1 s3 =>
  (some (.inl (some (qI r1)), s3)))) qE0)) qE0)) qE0
set_option maxRecDepth 100000 in
set_option maxHeartbeats 4000000 in
theorem t_X7_earliestStartZ {g : qG} {l : Launch} (hl : l.stackTraces = false) (a1 : Int32) (s0 : qS) : qM g l 24 0 0 (.code yX7_earliestStart cX7_earliestStart 2 (some .int)) yX7_earliestStart [qR 0 0, qI a1] s0 (f_X7_earliestStartZ a1 s0) := by
  refine qM_of (by decide +kernel) hl (List.forall_mem_cons.mpr ⟨rfl, (List.forall_mem_cons.mpr ⟨rfl, (fun _ h => absurd h List.not_mem_nil)⟩)⟩) (Nat.le_of_ble_eq_true rfl) ?_
  intro p e s m args below meth c C hret ht
  show qV p l e _ s m args below meth c g _ _ _ _ _ 0 [some (qR 0 0), some (qI a1)] [] s0
  exact (qv_aload_n C dX7_earliestStart_0 rfl (qv_iload_n C dX7_earliestStart_1 rfl (qv_callV C (rest := []) (cb := 0) (sb := 0) (t_X7_requireTaskZ hl a1 s0) mw_X7_requireTask lk_X7_149 in_X7_requireTask se_X7_requireTask rfl (by decide) (by decide) rfl rfl (Nat.le_of_ble_eq_true rfl) (by decide) dX7_earliestStart_2 rfl (qkV (fun s1 => (qv_aload_n C dX7_earliestStart_5 rfl (qv_callV C (rest := []) (cb := 0) (sb := 0) (t_X7_currentPlan hl  s1) mw_X7_currentPlan lk_X7_135 in_X7_currentPlan se_X7_currentPlan rfl (by decide) (by decide) rfl rfl (Nat.le_of_ble_eq_true rfl) (by decide) dX7_earliestStart_6 rfl (qkOne (fun s2 => (qv_getR C (j2 := 0) fl_X7_193 cl_X4 rfl (by decide) (by decide) (by decide) rfl rfl dX7_earliestStart_9 (qv_iload_n C dX7_earliestStart_12 rfl (qv_callS C (rest := []) (cb := 0) (sb := 0) (t_X7_at hl rfl (by decide) (by decide) a1 s2) mw_X7_at lk_X7_115 st_X7_at rfl (Nat.le_of_ble_eq_true rfl) (by decide) dX7_earliestStart_13 rfl (qkI (fun r1 s3 => (qv_iret C hret dX7_earliestStart_16)))))))))))))))
def f_X7_earliestStartByRoundsZ (a1 : Int32) (s0 : qS) : Option qO :=
  qbind (f_X7_requireTaskZ a1 s0) (qvV (fun s1 =>
  qbind (f_X7_currentPlan  s1) (qvS 11 (fun s2 =>
  qbind (f_X7_at 15 0 a1 s2) (qvI (fun r1 s3 =>
  (some (.inl (some (qI r1)), s3)))) qE0)) qE0)) qE0
set_option maxRecDepth 100000 in
set_option maxHeartbeats 4000000 in
theorem t_X7_earliestStartByRoundsZ {g : qG} {l : Launch} (hl : l.stackTraces = false) (a1 : Int32) (s0 : qS) : qM g l 24 0 0 (.code yX7_earliestStartByRounds cX7_earliestStartByRounds 2 (some .int)) yX7_earliestStartByRounds [qR 0 0, qI a1] s0 (f_X7_earliestStartByRoundsZ a1 s0) := by
  refine qM_of (by decide +kernel) hl (List.forall_mem_cons.mpr ⟨rfl, (List.forall_mem_cons.mpr ⟨rfl, (fun _ h => absurd h List.not_mem_nil)⟩)⟩) (Nat.le_of_ble_eq_true rfl) ?_
  intro p e s m args below meth c C hret ht
  show qV p l e _ s m args below meth c g _ _ _ _ _ 0 [some (qR 0 0), some (qI a1)] [] s0
  exact (qv_aload_n C dX7_earliestStartByRounds_0 rfl (qv_iload_n C dX7_earliestStartByRounds_1 rfl (qv_callV C (rest := []) (cb := 0) (sb := 0) (t_X7_requireTaskZ hl a1 s0) mw_X7_requireTask lk_X7_149 in_X7_requireTask se_X7_requireTask rfl (by decide) (by decide) rfl rfl (Nat.le_of_ble_eq_true rfl) (by decide) dX7_earliestStartByRounds_2 rfl (qkV (fun s1 => (qv_aload_n C dX7_earliestStartByRounds_5 rfl (qv_callV C (rest := []) (cb := 0) (sb := 0) (t_X7_currentPlan hl  s1) mw_X7_currentPlan lk_X7_135 in_X7_currentPlan se_X7_currentPlan rfl (by decide) (by decide) rfl rfl (Nat.le_of_ble_eq_true rfl) (by decide) dX7_earliestStartByRounds_6 rfl (qkOne (fun s2 => (qv_getR C (j2 := 0) fl_X7_196 cl_X4 rfl (by decide) (by decide) (by decide) rfl rfl dX7_earliestStartByRounds_9 (qv_iload_n C dX7_earliestStartByRounds_12 rfl (qv_callS C (rest := []) (cb := 0) (sb := 0) (t_X7_at hl rfl (by decide) (by decide) a1 s2) mw_X7_at lk_X7_115 st_X7_at rfl (Nat.le_of_ble_eq_true rfl) (by decide) dX7_earliestStartByRounds_13 rfl (qkI (fun r1 s3 => (qv_iret C hret dX7_earliestStartByRounds_16)))))))))))))))
def f_X7_latestStartZ (a1 : Int32) (s0 : qS) : Option qO :=
  qbind (f_X7_requireTaskZ a1 s0) (qvV (fun s1 =>
  qbind (f_X7_currentPlan  s1) (qvS 11 (fun s2 =>
  qbind (f_X7_at 16 0 a1 s2) (qvI (fun r1 s3 =>
  (some (.inl (some (qI r1)), s3)))) qE0)) qE0)) qE0
set_option maxRecDepth 100000 in
set_option maxHeartbeats 4000000 in
theorem t_X7_latestStartZ {g : qG} {l : Launch} (hl : l.stackTraces = false) (a1 : Int32) (s0 : qS) : qM g l 24 0 0 (.code yX7_latestStart cX7_latestStart 2 (some .int)) yX7_latestStart [qR 0 0, qI a1] s0 (f_X7_latestStartZ a1 s0) := by
  refine qM_of (by decide +kernel) hl (List.forall_mem_cons.mpr ⟨rfl, (List.forall_mem_cons.mpr ⟨rfl, (fun _ h => absurd h List.not_mem_nil)⟩)⟩) (Nat.le_of_ble_eq_true rfl) ?_
  intro p e s m args below meth c C hret ht
  show qV p l e _ s m args below meth c g _ _ _ _ _ 0 [some (qR 0 0), some (qI a1)] [] s0
  exact (qv_aload_n C dX7_latestStart_0 rfl (qv_iload_n C dX7_latestStart_1 rfl (qv_callV C (rest := []) (cb := 0) (sb := 0) (t_X7_requireTaskZ hl a1 s0) mw_X7_requireTask lk_X7_149 in_X7_requireTask se_X7_requireTask rfl (by decide) (by decide) rfl rfl (Nat.le_of_ble_eq_true rfl) (by decide) dX7_latestStart_2 rfl (qkV (fun s1 => (qv_aload_n C dX7_latestStart_5 rfl (qv_callV C (rest := []) (cb := 0) (sb := 0) (t_X7_currentPlan hl  s1) mw_X7_currentPlan lk_X7_135 in_X7_currentPlan se_X7_currentPlan rfl (by decide) (by decide) rfl rfl (Nat.le_of_ble_eq_true rfl) (by decide) dX7_latestStart_6 rfl (qkOne (fun s2 => (qv_getR C (j2 := 0) fl_X7_199 cl_X4 rfl (by decide) (by decide) (by decide) rfl rfl dX7_latestStart_9 (qv_iload_n C dX7_latestStart_12 rfl (qv_callS C (rest := []) (cb := 0) (sb := 0) (t_X7_at hl rfl (by decide) (by decide) a1 s2) mw_X7_at lk_X7_115 st_X7_at rfl (Nat.le_of_ble_eq_true rfl) (by decide) dX7_latestStart_13 rfl (qkI (fun r1 s3 => (qv_iret C hret dX7_latestStart_16)))))))))))))))
def f_X7_slackZ (a1 : Int32) (s0 : qS) : Option qO :=
  qbind (f_X7_requireTaskZ a1 s0) (qvV (fun s1 =>
  qbind (f_X7_currentPlan  s1) (qvS 11 (fun s2 =>
  qbind (f_X4_slackOf a1 s2) (qvI (fun r1 s3 =>
  (some (.inl (some (qI r1)), s3)))) qE0)) qE0)) qE0
set_option maxRecDepth 100000 in
set_option maxHeartbeats 4000000 in
theorem t_X7_slackZ {g : qG} {l : Launch} (hl : l.stackTraces = false) (a1 : Int32) (s0 : qS) : qM g l 24 0 0 (.code yX7_slack cX7_slack 2 (some .int)) yX7_slack [qR 0 0, qI a1] s0 (f_X7_slackZ a1 s0) := by
  refine qM_of (by decide +kernel) hl (List.forall_mem_cons.mpr ⟨rfl, (List.forall_mem_cons.mpr ⟨rfl, (fun _ h => absurd h List.not_mem_nil)⟩)⟩) (Nat.le_of_ble_eq_true rfl) ?_
  intro p e s m args below meth c C hret ht
  show qV p l e _ s m args below meth c g _ _ _ _ _ 0 [some (qR 0 0), some (qI a1)] [] s0
  exact (qv_aload_n C dX7_slack_0 rfl (qv_iload_n C dX7_slack_1 rfl (qv_callV C (rest := []) (cb := 0) (sb := 0) (t_X7_requireTaskZ hl a1 s0) mw_X7_requireTask lk_X7_149 in_X7_requireTask se_X7_requireTask rfl (by decide) (by decide) rfl rfl (Nat.le_of_ble_eq_true rfl) (by decide) dX7_slack_2 rfl (qkV (fun s1 => (qv_aload_n C dX7_slack_5 rfl (qv_callV C (rest := []) (cb := 0) (sb := 0) (t_X7_currentPlan hl  s1) mw_X7_currentPlan lk_X7_135 in_X7_currentPlan se_X7_currentPlan rfl (by decide) (by decide) rfl rfl (Nat.le_of_ble_eq_true rfl) (by decide) dX7_slack_6 rfl (qkOne (fun s2 => (qv_iload_n C dX7_slack_9 rfl (qv_callVN C (rest := []) (cb := 0) (sb := 0) (t_X4_slackOf hl a1 s2) mw_X4_slackOf lk_X7_202 in_X4_slackOf se_X4_slackOf rfl (by decide) (by decide) rfl rfl (Nat.le_of_ble_eq_true rfl) (by decide) dX7_slack_10 rfl (qkI (fun r1 s3 => (qv_iret C hret dX7_slack_13))))))))))))))
def f_X7_isCriticalZ (a1 : Int32) (s0 : qS) : Option qO :=
  qbind (f_X7_requireTaskZ a1 s0) (qvV (fun s1 =>
  qbind (f_X7_currentPlan  s1) (qvS 11 (fun s2 =>
  qbind (f_X4_slackOf a1 s2) (qvI (fun r1 s3 =>
  (if r1 = 0 then (some (.inl (some (qI (1 : Int32))), s3)) else
  (some (.inl (some (qI (0 : Int32))), s3))))) qE0)) qE0)) qE0
set_option maxRecDepth 100000 in
set_option maxHeartbeats 4000000 in
theorem t_X7_isCriticalZ {g : qG} {l : Launch} (hl : l.stackTraces = false) (a1 : Int32) (s0 : qS) : qM g l 24 0 0 (.code yX7_isCritical cX7_isCritical 2 (some .boolean)) yX7_isCritical [qR 0 0, qI a1] s0 (f_X7_isCriticalZ a1 s0) := by
  refine qM_of (by decide +kernel) hl (List.forall_mem_cons.mpr ⟨rfl, (List.forall_mem_cons.mpr ⟨rfl, (fun _ h => absurd h List.not_mem_nil)⟩)⟩) (Nat.le_of_ble_eq_true rfl) ?_
  intro p e s m args below meth c C hret ht
  show qV p l e _ s m args below meth c g _ _ _ _ _ 0 [some (qR 0 0), some (qI a1)] [] s0
  exact (qv_aload_n C dX7_isCritical_0 rfl (qv_iload_n C dX7_isCritical_1 rfl (qv_callV C (rest := []) (cb := 0) (sb := 0) (t_X7_requireTaskZ hl a1 s0) mw_X7_requireTask lk_X7_149 in_X7_requireTask se_X7_requireTask rfl (by decide) (by decide) rfl rfl (Nat.le_of_ble_eq_true rfl) (by decide) dX7_isCritical_2 rfl (qkV (fun s1 => (qv_aload_n C dX7_isCritical_5 rfl (qv_callV C (rest := []) (cb := 0) (sb := 0) (t_X7_currentPlan hl  s1) mw_X7_currentPlan lk_X7_135 in_X7_currentPlan se_X7_currentPlan rfl (by decide) (by decide) rfl rfl (Nat.le_of_ble_eq_true rfl) (by decide) dX7_isCritical_6 rfl (qkOne (fun s2 => (qv_iload_n C dX7_isCritical_9 rfl (qv_callVN C (rest := []) (cb := 0) (sb := 0) (t_X4_slackOf hl a1 s2) mw_X4_slackOf lk_X7_202 in_X4_slackOf se_X4_slackOf rfl (by decide) (by decide) rfl rfl (Nat.le_of_ble_eq_true rfl) (by decide) dX7_isCritical_10 rfl (qkI (fun r1 s3 => (qv_if_ne C (tgt := 20) dX7_isCritical_13 (by decide) (fun _ => (qv_iconst C (v := (1 : Int32)) dX7_isCritical_16 (by decide) (qv_goto C (tgt := 21) dX7_isCritical_17 (by decide) (qv_zret! C hret (qbo_nar (by decide)) dX7_isCritical_21))))
  (fun _ => (qv_iconst C (v := (0 : Int32)) dX7_isCritical_20 (by decide) (qv_zret! C hret (qbo_nar (by decide)) dX7_isCritical_21)))))))))))))))))
def f_X7_levelledStartZ (a1 : Int32) (s0 : qS) : Option qO :=
  qbind (f_X7_requireTaskZ a1 s0) (qvV (fun s1 =>
  qbind (f_X7_currentPlan  s1) (qvS 11 (fun s2 =>
  qbind (f_X7_at 17 0 a1 s2) (qvI (fun r1 s3 =>
  (some (.inl (some (qI r1)), s3)))) qE0)) qE0)) qE0
set_option maxRecDepth 100000 in
set_option maxHeartbeats 4000000 in
theorem t_X7_levelledStartZ {g : qG} {l : Launch} (hl : l.stackTraces = false) (a1 : Int32) (s0 : qS) : qM g l 24 0 0 (.code yX7_levelledStart cX7_levelledStart 2 (some .int)) yX7_levelledStart [qR 0 0, qI a1] s0 (f_X7_levelledStartZ a1 s0) := by
  refine qM_of (by decide +kernel) hl (List.forall_mem_cons.mpr ⟨rfl, (List.forall_mem_cons.mpr ⟨rfl, (fun _ h => absurd h List.not_mem_nil)⟩)⟩) (Nat.le_of_ble_eq_true rfl) ?_
  intro p e s m args below meth c C hret ht
  show qV p l e _ s m args below meth c g _ _ _ _ _ 0 [some (qR 0 0), some (qI a1)] [] s0
  exact (qv_aload_n C dX7_levelledStart_0 rfl (qv_iload_n C dX7_levelledStart_1 rfl (qv_callV C (rest := []) (cb := 0) (sb := 0) (t_X7_requireTaskZ hl a1 s0) mw_X7_requireTask lk_X7_149 in_X7_requireTask se_X7_requireTask rfl (by decide) (by decide) rfl rfl (Nat.le_of_ble_eq_true rfl) (by decide) dX7_levelledStart_2 rfl (qkV (fun s1 => (qv_aload_n C dX7_levelledStart_5 rfl (qv_callV C (rest := []) (cb := 0) (sb := 0) (t_X7_currentPlan hl  s1) mw_X7_currentPlan lk_X7_135 in_X7_currentPlan se_X7_currentPlan rfl (by decide) (by decide) rfl rfl (Nat.le_of_ble_eq_true rfl) (by decide) dX7_levelledStart_6 rfl (qkOne (fun s2 => (qv_getR C (j2 := 0) fl_X7_139 cl_X4 rfl (by decide) (by decide) (by decide) rfl rfl dX7_levelledStart_9 (qv_iload_n C dX7_levelledStart_12 rfl (qv_callS C (rest := []) (cb := 0) (sb := 0) (t_X7_at hl rfl (by decide) (by decide) a1 s2) mw_X7_at lk_X7_115 st_X7_at rfl (Nat.le_of_ble_eq_true rfl) (by decide) dX7_levelledStart_13 rfl (qkI (fun r1 s3 => (qv_iret C hret dX7_levelledStart_16)))))))))))))))
def f_X7_usageZ (a1 : Int32) (a2 : Int32) (s0 : qS) : Option qO :=
  qbind (f_X7_requireResourceZ a1 s0) (qvV (fun s1 =>
  qbind (f_X7_requireDayZ a2 s1) (qvV (fun s2 =>
  qbind (f_X7_currentPlan  s2) (qvS 11 (fun s3 =>
  qbind (f_X4_usedOn a1 a2 s3) (qvI (fun r1 s4 =>
  (some (.inl (some (qI r1)), s4)))) qE0)) qE0)) qE0)) qE0
set_option maxRecDepth 100000 in
set_option maxHeartbeats 4000000 in
theorem t_X7_usageZ {g : qG} {l : Launch} (hl : l.stackTraces = false) (a1 : Int32) (a2 : Int32) (s0 : qS) : qM g l 24 0 0 (.code yX7_usage cX7_usage 3 (some .int)) yX7_usage [qR 0 0, qI a1, qI a2] s0 (f_X7_usageZ a1 a2 s0) := by
  refine qM_of (by decide +kernel) hl (List.forall_mem_cons.mpr ⟨rfl, (List.forall_mem_cons.mpr ⟨rfl, (List.forall_mem_cons.mpr ⟨rfl, (fun _ h => absurd h List.not_mem_nil)⟩)⟩)⟩) (Nat.le_of_ble_eq_true rfl) ?_
  intro p e s m args below meth c C hret ht
  show qV p l e _ s m args below meth c g _ _ _ _ _ 0 [some (qR 0 0), some (qI a1), some (qI a2)] [] s0
  exact (qv_iload_n C dX7_usage_0 rfl (qv_callS C (rest := []) (cb := 0) (sb := 0) (t_X7_requireResourceZ hl a1 s0) mw_X7_requireResource lk_X7_158 st_X7_requireResource rfl (Nat.le_of_ble_eq_true rfl) (by decide) dX7_usage_1 rfl (qkV (fun s1 => (qv_iload_n C dX7_usage_4 rfl (qv_callS C (rest := []) (cb := 0) (sb := 0) (t_X7_requireDayZ hl a2 s1) mw_X7_requireDay lk_X7_210 st_X7_requireDay rfl (Nat.le_of_ble_eq_true rfl) (by decide) dX7_usage_5 rfl (qkV (fun s2 => (qv_aload_n C dX7_usage_8 rfl (qv_callV C (rest := []) (cb := 0) (sb := 0) (t_X7_currentPlan hl  s2) mw_X7_currentPlan lk_X7_135 in_X7_currentPlan se_X7_currentPlan rfl (by decide) (by decide) rfl rfl (Nat.le_of_ble_eq_true rfl) (by decide) dX7_usage_9 rfl (qkOne (fun s3 => (qv_iload_n C dX7_usage_12 rfl (qv_iload_n C dX7_usage_13 rfl (qv_callVN C (rest := []) (cb := 0) (sb := 0) (t_X4_usedOn hl a1 a2 s3) mw_X4_usedOn lk_X7_213 in_X4_usedOn se_X4_usedOn rfl (by decide) (by decide) rfl rfl (Nat.le_of_ble_eq_true rfl) (by decide) dX7_usage_14 rfl (qkI (fun r1 s4 => (qv_iret C hret dX7_usage_17))))))))))))))))))
def b_X7_usageByTasksZ_13 (rk13 : Int32 → Int32 → Int32 → Int32 → qS → Option qO) (v1 : Int32) (v2 : Int32) (v3 : Int32) (v4 : Int32) (s0 : qS) : Option qO :=
  (if (s0 1 0 7) ≤ v4 then (some (.inl (some (qI v3)), s0)) else
  qbind (f_X7_at 3 0 v4 s0) (qvI (fun r1 s3 =>
  (if r1 = v1 then qbind (f_X7_isWorkedOn v4 v2 s3) (qvI (fun r2 s4 =>
  (if r2 = 0 then rk13 v1 v2 v3 (v4 + (1 : Int32)) s4 else
  qbind (f_X7_at 4 0 v4 s4) (qvI (fun r3 s5 =>
  rk13 v1 v2 (v3 + r3) (v4 + (1 : Int32)) s5)) qE0))) qE0 else
  rk13 v1 v2 v3 (v4 + (1 : Int32)) s3))) qE0)
def l_X7_usageByTasksZ_13 : Nat → Int32 → Int32 → Int32 → Int32 → qS → Option qO
  | 0, _, _, _, _, _ => none
  | n + 1, v1, v2, v3, v4, s0 => b_X7_usageByTasksZ_13  (l_X7_usageByTasksZ_13  n) v1 v2 v3 v4 s0
set_option maxRecDepth 100000 in
set_option maxHeartbeats 4000000 in
theorem bt_X7_usageByTasksZ_13 {p : Program} {l : Launch} {e : Env} {s : State} {m : MethodId} {args : Array Value} {below : List Frame} {meth : Method} {c : Code} {g : qG} (hl : l.stackTraces = false) (C : qC p l s m meth c cX7_usageByTasks 5 RX7 g) (hret : meth.sig.returnType = (some .int)) (ht : ∀ x ∈ c.exceptionTable.toList, False)  (rk13 : Int32 → Int32 → Int32 → Int32 → qS → Option qO) (hrk13 : ∀ (v1 : Int32) (v2 : Int32) (v3 : Int32) (v4 : Int32) (s0 : qS), qV p l e (qrm 25 0 0) s m args below meth c g 5 (qQf g below args s (qrm 25 0 0)) (rk13 v1 v2 v3 v4 s0) 0 0 13 [some (qR 0 0), some (qI v1), some (qI v2), some (qI v3), some (qI v4)] [] s0) (v1 : Int32) (v2 : Int32) (v3 : Int32) (v4 : Int32) (s0 : qS) : qV p l e (qrm 25 0 0) s m args below meth c g 5 (qQf g below args s (qrm 25 0 0)) (b_X7_usageByTasksZ_13  rk13 v1 v2 v3 v4 s0) 0 0 13 [some (qR 0 0), some (qI v1), some (qI v2), some (qI v3), some (qI v4)] [] s0 :=
  (qv_iload C dX7_usageByTasks_13 rfl (qv_aload_n C dX7_usageByTasks_15 rfl (qv_getR C (j2 := 0) fl_X7_12 cl_X7 rfl (by decide) (by decide) (by decide) rfl rfl dX7_usageByTasks_16 (qv_getI C fl_X7_88 cl_X5 rfl (by decide) (by decide) (by decide) rfl dX7_usageByTasks_19 (qv_icmp_ge C (tgt := 72) dX7_usageByTasks_22 (by decide) (fun _ => (qv_iload_n C dX7_usageByTasks_72 rfl (qv_iret C hret dX7_usageByTasks_73)))
  (fun _ => (qv_aload_n C dX7_usageByTasks_25 rfl (qv_getR C (j2 := 0) fl_X7_12 cl_X7 rfl (by decide) (by decide) (by decide) rfl rfl dX7_usageByTasks_26 (qv_getR C (j2 := 0) fl_X7_152 cl_X5 rfl (by decide) (by decide) (by decide) rfl rfl dX7_usageByTasks_29 (qv_iload C dX7_usageByTasks_32 rfl (qv_callS C (rest := []) (cb := 0) (sb := 0) (t_X7_at hl rfl (by decide) (by decide) v4 s0) mw_X7_at lk_X7_115 st_X7_at rfl (Nat.le_of_ble_eq_true rfl) (by decide) dX7_usageByTasks_34 rfl (qkI (fun r1 s3 => (qv_iload_n C dX7_usageByTasks_37 rfl (qv_icmp_ne C (tgt := 66) dX7_usageByTasks_38 (by decide) (fun _ => (qv_aload_n C dX7_usageByTasks_41 rfl (qv_iload C dX7_usageByTasks_42 rfl (qv_iload_n C dX7_usageByTasks_44 rfl (qv_callV C (rest := []) (cb := 0) (sb := 0) (t_X7_isWorkedOn hl v4 v2 s3) mw_X7_isWorkedOn lk_X7_217 in_X7_isWorkedOn se_X7_isWorkedOn rfl (by decide) (by decide) rfl rfl (Nat.le_of_ble_eq_true rfl) (by decide) dX7_usageByTasks_45 rfl (qkI (fun r2 s4 => (qv_if_eq C (tgt := 66) dX7_usageByTasks_48 (by decide) (fun _ => (qv_iinc C (v := (v4 + (1 : Int32))) dX7_usageByTasks_66 rfl rfl (by decide) rfl (qv_goto C (tgt := 13) dX7_usageByTasks_69 (by decide) (qV.weak [true, true, true, true, true] (hrk13 v1 v2 v3 (v4 + (1 : Int32)) s4)))))
  (fun _ => (qv_iload_n C dX7_usageByTasks_51 rfl (qv_aload_n C dX7_usageByTasks_52 rfl (qv_getR C (j2 := 0) fl_X7_12 cl_X7 rfl (by decide) (by decide) (by decide) rfl rfl dX7_usageByTasks_53 (qv_getR C (j2 := 0) fl_X7_155 cl_X5 rfl (by decide) (by decide) (by decide) rfl rfl dX7_usageByTasks_56 (qv_iload C dX7_usageByTasks_59 rfl (qv_callS C (rest := [qI v3]) (cb := 0) (sb := 0) (t_X7_at hl rfl (by decide) (by decide) v4 s4) mw_X7_at lk_X7_115 st_X7_at rfl (Nat.le_of_ble_eq_true rfl) (by decide) dX7_usageByTasks_61 rfl (qkI (fun r3 s5 => (qv_iadd C dX7_usageByTasks_64 (qv_istore_n C dX7_usageByTasks_65 (by decide) rfl (qv_iinc C (v := (v4 + (1 : Int32))) dX7_usageByTasks_66 rfl rfl (by decide) rfl (qv_goto C (tgt := 13) dX7_usageByTasks_69 (by decide) (qV.weak [true, true, true, true, true] (hrk13 v1 v2 (v3 + r3) (v4 + (1 : Int32)) s5)))))))))))))))))))))))
  (fun _ => (qv_iinc C (v := (v4 + (1 : Int32))) dX7_usageByTasks_66 rfl rfl (by decide) rfl (qv_goto C (tgt := 13) dX7_usageByTasks_69 (by decide) (qV.weak [true, true, true, true, true] (hrk13 v1 v2 v3 (v4 + (1 : Int32)) s3))))))))))))))))))))
theorem lt_X7_usageByTasksZ_13 {p : Program} {l : Launch} {e : Env} {s : State} {m : MethodId} {args : Array Value} {below : List Frame} {meth : Method} {c : Code} {g : qG} (hl : l.stackTraces = false) (C : qC p l s m meth c cX7_usageByTasks 5 RX7 g) (hret : meth.sig.returnType = (some .int)) (ht : ∀ x ∈ c.exceptionTable.toList, False)  : ∀ (n : Nat) (v1 : Int32) (v2 : Int32) (v3 : Int32) (v4 : Int32) (s0 : qS), qV p l e (qrm 25 0 0) s m args below meth c g 5 (qQf g below args s (qrm 25 0 0)) (l_X7_usageByTasksZ_13  n v1 v2 v3 v4 s0) 0 0 13 [some (qR 0 0), some (qI v1), some (qI v2), some (qI v3), some (qI v4)] [] s0
  | 0, _, _, _, _, _ => qV.no
  | n + 1, v1, v2, v3, v4, s0 => bt_X7_usageByTasksZ_13 hl C hret ht  _ (lt_X7_usageByTasksZ_13 hl C hret ht  n) v1 v2 v3 v4 s0
def f_X7_usageByTasksZ (a1 : Int32) (a2 : Int32) (s0 : qS) : Option qO :=
  qbind (f_X7_requireResourceZ a1 s0) (qvV (fun s1 =>
  qbind (f_X7_requireDayZ a2 s1) (qvV (fun s2 =>
  l_X7_usageByTasksZ_13  qFU a1 a2 (0 : Int32) (0 : Int32) s2)) qE0)) qE0
set_option maxRecDepth 100000 in
set_option maxHeartbeats 4000000 in
theorem t_X7_usageByTasksZ {g : qG} {l : Launch} (hl : l.stackTraces = false) (a1 : Int32) (a2 : Int32) (s0 : qS) : qM g l 25 0 0 (.code yX7_usageByTasks cX7_usageByTasks 5 (some .int)) yX7_usageByTasks [qR 0 0, qI a1, qI a2] s0 (f_X7_usageByTasksZ a1 a2 s0) := by
  refine qM_of (by decide +kernel) hl (List.forall_mem_cons.mpr ⟨rfl, (List.forall_mem_cons.mpr ⟨rfl, (List.forall_mem_cons.mpr ⟨rfl, (fun _ h => absurd h List.not_mem_nil)⟩)⟩)⟩) (Nat.le_of_ble_eq_true rfl) ?_
  intro p e s m args below meth c C hret ht
  show qV p l e _ s m args below meth c g _ _ _ _ _ 0 [some (qR 0 0), some (qI a1), some (qI a2), none, none] [] s0
  exact (qv_iload_n C dX7_usageByTasks_0 rfl (qv_callS C (rest := []) (cb := 0) (sb := 0) (t_X7_requireResourceZ hl a1 s0) mw_X7_requireResource lk_X7_158 st_X7_requireResource rfl (Nat.le_of_ble_eq_true rfl) (by decide) dX7_usageByTasks_1 rfl (qkV (fun s1 => (qv_iload_n C dX7_usageByTasks_4 rfl (qv_callS C (rest := []) (cb := 0) (sb := 0) (t_X7_requireDayZ hl a2 s1) mw_X7_requireDay lk_X7_210 st_X7_requireDay rfl (Nat.le_of_ble_eq_true rfl) (by decide) dX7_usageByTasks_5 rfl (qkV (fun s2 => (qv_iconst C (v := (0 : Int32)) dX7_usageByTasks_8 (by decide) (qv_istore_n C dX7_usageByTasks_9 (by decide) rfl (qv_iconst C (v := (0 : Int32)) dX7_usageByTasks_10 (by decide) (qv_istore C dX7_usageByTasks_11 (by decide) rfl (qV.weak [true, true, true, true, true] (lt_X7_usageByTasksZ_13 hl C hret ht  qFU a1 a2 (0 : Int32) (0 : Int32) s2))))))))))))))
def b_X7_peakUsageZ_14 (rk14 : Int32 → Int32 → Int32 → qS → Option qO) (v1 : Int32) (v3 : Int32) (v4 : Int32) (s0 : qS) : Option qO :=
  (if (138 : Int32) ≤ v4 then (some (.inl (some (qI v3)), s0)) else
  qbind (f_X4_usedOn v1 v4 s0) (qvI (fun r1 s3 =>
  rk14 v1 (qmax v3 r1) (v4 + (1 : Int32)) s3)) qE0)
def l_X7_peakUsageZ_14 : Nat → Int32 → Int32 → Int32 → qS → Option qO
  | 0, _, _, _, _ => none
  | n + 1, v1, v3, v4, s0 => b_X7_peakUsageZ_14  (l_X7_peakUsageZ_14  n) v1 v3 v4 s0
set_option maxRecDepth 100000 in
set_option maxHeartbeats 4000000 in
theorem bt_X7_peakUsageZ_14 {p : Program} {l : Launch} {e : Env} {s : State} {m : MethodId} {args : Array Value} {below : List Frame} {meth : Method} {c : Code} {g : qG} (hl : l.stackTraces = false) (C : qC p l s m meth c cX7_peakUsage 5 RX7 g) (hret : meth.sig.returnType = (some .int)) (ht : ∀ x ∈ c.exceptionTable.toList, False)  (rk14 : Int32 → Int32 → Int32 → qS → Option qO) (hrk14 : ∀ (v1 : Int32) (v3 : Int32) (v4 : Int32) (s0 : qS), qV p l e (qrm 24 0 0) s m args below meth c g 5 (qQf g below args s (qrm 24 0 0)) (rk14 v1 v3 v4 s0) 0 0 14 [none, some (qI v1), some (qR 11 0), some (qI v3), some (qI v4)] [] s0) (v1 : Int32) (v3 : Int32) (v4 : Int32) (s0 : qS) : qV p l e (qrm 24 0 0) s m args below meth c g 5 (qQf g below args s (qrm 24 0 0)) (b_X7_peakUsageZ_14  rk14 v1 v3 v4 s0) 0 0 14 [none, some (qI v1), some (qR 11 0), some (qI v3), some (qI v4)] [] s0 :=
  (qv_iload C dX7_peakUsage_14 rfl (qv_sipush C (v := (138 : Int32)) dX7_peakUsage_16 (by decide) (qv_icmp_ge C (tgt := 40) dX7_peakUsage_19 (by decide) (fun _ => (qv_iload_n C dX7_peakUsage_40 rfl (qv_iret C hret dX7_peakUsage_41)))
  (fun _ => (qv_iload_n C dX7_peakUsage_22 rfl (qv_aload_n C dX7_peakUsage_23 rfl (qv_iload_n C dX7_peakUsage_24 rfl (qv_iload C dX7_peakUsage_25 rfl (qv_callVN C (rest := [qI v3]) (cb := 0) (sb := 0) (t_X4_usedOn hl v1 v4 s0) mw_X4_usedOn lk_X7_213 in_X4_usedOn se_X4_usedOn rfl (by decide) (by decide) rfl rfl (Nat.le_of_ble_eq_true rfl) (by decide) dX7_peakUsage_27 rfl (qkI (fun r1 s3 => (qv_mmax C lk_X7_220 mm_max (Nat.le_of_ble_eq_true rfl) (by decide) dX7_peakUsage_30 (qv_istore_n C dX7_peakUsage_33 (by decide) rfl (qv_iinc C (v := (v4 + (1 : Int32))) dX7_peakUsage_34 rfl rfl (by decide) rfl (qv_goto C (tgt := 14) dX7_peakUsage_37 (by decide) (qV.weak [false, true, true, true, true] (hrk14 v1 (qmax v3 r1) (v4 + (1 : Int32)) s3)))))))))))))))))
theorem lt_X7_peakUsageZ_14 {p : Program} {l : Launch} {e : Env} {s : State} {m : MethodId} {args : Array Value} {below : List Frame} {meth : Method} {c : Code} {g : qG} (hl : l.stackTraces = false) (C : qC p l s m meth c cX7_peakUsage 5 RX7 g) (hret : meth.sig.returnType = (some .int)) (ht : ∀ x ∈ c.exceptionTable.toList, False)  : ∀ (n : Nat) (v1 : Int32) (v3 : Int32) (v4 : Int32) (s0 : qS), qV p l e (qrm 24 0 0) s m args below meth c g 5 (qQf g below args s (qrm 24 0 0)) (l_X7_peakUsageZ_14  n v1 v3 v4 s0) 0 0 14 [none, some (qI v1), some (qR 11 0), some (qI v3), some (qI v4)] [] s0
  | 0, _, _, _, _ => qV.no
  | n + 1, v1, v3, v4, s0 => bt_X7_peakUsageZ_14 hl C hret ht  _ (lt_X7_peakUsageZ_14 hl C hret ht  n) v1 v3 v4 s0
def f_X7_peakUsageZ (a1 : Int32) (s0 : qS) : Option qO :=
  qbind (f_X7_requireResourceZ a1 s0) (qvV (fun s1 =>
  qbind (f_X7_currentPlan  s1) (qvS 11 (fun s2 =>
  l_X7_peakUsageZ_14  qFU a1 (0 : Int32) (0 : Int32) s2)) qE0)) qE0
set_option maxRecDepth 100000 in
set_option maxHeartbeats 4000000 in
theorem t_X7_peakUsageZ {g : qG} {l : Launch} (hl : l.stackTraces = false) (a1 : Int32) (s0 : qS) : qM g l 24 0 0 (.code yX7_peakUsage cX7_peakUsage 5 (some .int)) yX7_peakUsage [qR 0 0, qI a1] s0 (f_X7_peakUsageZ a1 s0) := by
  refine qM_of (by decide +kernel) hl (List.forall_mem_cons.mpr ⟨rfl, (List.forall_mem_cons.mpr ⟨rfl, (fun _ h => absurd h List.not_mem_nil)⟩)⟩) (Nat.le_of_ble_eq_true rfl) ?_
  intro p e s m args below meth c C hret ht
  show qV p l e _ s m args below meth c g _ _ _ _ _ 0 [some (qR 0 0), some (qI a1), none, none, none] [] s0
  exact (qv_iload_n C dX7_peakUsage_0 rfl (qv_callS C (rest := []) (cb := 0) (sb := 0) (t_X7_requireResourceZ hl a1 s0) mw_X7_requireResource lk_X7_158 st_X7_requireResource rfl (Nat.le_of_ble_eq_true rfl) (by decide) dX7_peakUsage_1 rfl (qkV (fun s1 => (qv_aload_n C dX7_peakUsage_4 rfl (qv_callV C (rest := []) (cb := 0) (sb := 0) (t_X7_currentPlan hl  s1) mw_X7_currentPlan lk_X7_135 in_X7_currentPlan se_X7_currentPlan rfl (by decide) (by decide) rfl rfl (Nat.le_of_ble_eq_true rfl) (by decide) dX7_peakUsage_5 rfl (qkOne (fun s2 => (qv_astore_n C dX7_peakUsage_8 (by decide) rfl (qv_iconst C (v := (0 : Int32)) dX7_peakUsage_9 (by decide) (qv_istore_n C dX7_peakUsage_10 (by decide) rfl (qv_iconst C (v := (0 : Int32)) dX7_peakUsage_11 (by decide) (qv_istore C dX7_peakUsage_12 (by decide) rfl (qV.weak [false, true, true, true, true] (lt_X7_peakUsageZ_14 hl C hret ht  qFU a1 (0 : Int32) (0 : Int32) s2)))))))))))))))
def b_X7_tasksOnZ_8 (rk8 : Int32 → Int32 → Int32 → qS → Option qO) (v1 : Int32) (v2 : Int32) (v3 : Int32) (s0 : qS) : Option qO :=
  (if (s0 1 0 7) ≤ v3 then (some (.inl (some (qI v2)), s0)) else
  qbind (f_X7_isWorkedOn v3 v1 s0) (qvI (fun r1 s2 =>
  (if r1 = 0 then rk8 v1 v2 (v3 + (1 : Int32)) s2 else
  rk8 v1 (v2 + (1 : Int32)) (v3 + (1 : Int32)) s2))) qE0)
def l_X7_tasksOnZ_8 : Nat → Int32 → Int32 → Int32 → qS → Option qO
  | 0, _, _, _, _ => none
  | n + 1, v1, v2, v3, s0 => b_X7_tasksOnZ_8  (l_X7_tasksOnZ_8  n) v1 v2 v3 s0
set_option maxRecDepth 100000 in
set_option maxHeartbeats 4000000 in
theorem bt_X7_tasksOnZ_8 {p : Program} {l : Launch} {e : Env} {s : State} {m : MethodId} {args : Array Value} {below : List Frame} {meth : Method} {c : Code} {g : qG} (hl : l.stackTraces = false) (C : qC p l s m meth c cX7_tasksOn 4 RX7 g) (hret : meth.sig.returnType = (some .int)) (ht : ∀ x ∈ c.exceptionTable.toList, False)  (rk8 : Int32 → Int32 → Int32 → qS → Option qO) (hrk8 : ∀ (v1 : Int32) (v2 : Int32) (v3 : Int32) (s0 : qS), qV p l e (qrm 25 0 0) s m args below meth c g 4 (qQf g below args s (qrm 25 0 0)) (rk8 v1 v2 v3 s0) 0 0 8 [some (qR 0 0), some (qI v1), some (qI v2), some (qI v3)] [] s0) (v1 : Int32) (v2 : Int32) (v3 : Int32) (s0 : qS) : qV p l e (qrm 25 0 0) s m args below meth c g 4 (qQf g below args s (qrm 25 0 0)) (b_X7_tasksOnZ_8  rk8 v1 v2 v3 s0) 0 0 8 [some (qR 0 0), some (qI v1), some (qI v2), some (qI v3)] [] s0 :=
  (qv_iload_n C dX7_tasksOn_8 rfl (qv_aload_n C dX7_tasksOn_9 rfl (qv_getR C (j2 := 0) fl_X7_12 cl_X7 rfl (by decide) (by decide) (by decide) rfl rfl dX7_tasksOn_10 (qv_getI C fl_X7_88 cl_X5 rfl (by decide) (by decide) (by decide) rfl dX7_tasksOn_13 (qv_icmp_ge C (tgt := 37) dX7_tasksOn_16 (by decide) (fun _ => (qv_iload_n C dX7_tasksOn_37 rfl (qv_iret C hret dX7_tasksOn_38)))
  (fun _ => (qv_aload_n C dX7_tasksOn_19 rfl (qv_iload_n C dX7_tasksOn_20 rfl (qv_iload_n C dX7_tasksOn_21 rfl (qv_callV C (rest := []) (cb := 0) (sb := 0) (t_X7_isWorkedOn hl v3 v1 s0) mw_X7_isWorkedOn lk_X7_217 in_X7_isWorkedOn se_X7_isWorkedOn rfl (by decide) (by decide) rfl rfl (Nat.le_of_ble_eq_true rfl) (by decide) dX7_tasksOn_22 rfl (qkI (fun r1 s2 => (qv_if_eq C (tgt := 31) dX7_tasksOn_25 (by decide) (fun _ => (qv_iinc C (v := (v3 + (1 : Int32))) dX7_tasksOn_31 rfl rfl (by decide) rfl (qv_goto C (tgt := 8) dX7_tasksOn_34 (by decide) (qV.weak [true, true, true, true] (hrk8 v1 v2 (v3 + (1 : Int32)) s2)))))
  (fun _ => (qv_iinc C (v := (v2 + (1 : Int32))) dX7_tasksOn_28 rfl rfl (by decide) rfl (qv_iinc C (v := (v3 + (1 : Int32))) dX7_tasksOn_31 rfl rfl (by decide) rfl (qv_goto C (tgt := 8) dX7_tasksOn_34 (by decide) (qV.weak [true, true, true, true] (hrk8 v1 (v2 + (1 : Int32)) (v3 + (1 : Int32)) s2)))))))))))))))))))
theorem lt_X7_tasksOnZ_8 {p : Program} {l : Launch} {e : Env} {s : State} {m : MethodId} {args : Array Value} {below : List Frame} {meth : Method} {c : Code} {g : qG} (hl : l.stackTraces = false) (C : qC p l s m meth c cX7_tasksOn 4 RX7 g) (hret : meth.sig.returnType = (some .int)) (ht : ∀ x ∈ c.exceptionTable.toList, False)  : ∀ (n : Nat) (v1 : Int32) (v2 : Int32) (v3 : Int32) (s0 : qS), qV p l e (qrm 25 0 0) s m args below meth c g 4 (qQf g below args s (qrm 25 0 0)) (l_X7_tasksOnZ_8  n v1 v2 v3 s0) 0 0 8 [some (qR 0 0), some (qI v1), some (qI v2), some (qI v3)] [] s0
  | 0, _, _, _, _ => qV.no
  | n + 1, v1, v2, v3, s0 => bt_X7_tasksOnZ_8 hl C hret ht  _ (lt_X7_tasksOnZ_8 hl C hret ht  n) v1 v2 v3 s0
def f_X7_tasksOnZ (a1 : Int32) (s0 : qS) : Option qO :=
  qbind (f_X7_requireDayZ a1 s0) (qvV (fun s1 =>
  l_X7_tasksOnZ_8  qFU a1 (0 : Int32) (0 : Int32) s1)) qE0
set_option maxRecDepth 100000 in
set_option maxHeartbeats 4000000 in
theorem t_X7_tasksOnZ {g : qG} {l : Launch} (hl : l.stackTraces = false) (a1 : Int32) (s0 : qS) : qM g l 25 0 0 (.code yX7_tasksOn cX7_tasksOn 4 (some .int)) yX7_tasksOn [qR 0 0, qI a1] s0 (f_X7_tasksOnZ a1 s0) := by
  refine qM_of (by decide +kernel) hl (List.forall_mem_cons.mpr ⟨rfl, (List.forall_mem_cons.mpr ⟨rfl, (fun _ h => absurd h List.not_mem_nil)⟩)⟩) (Nat.le_of_ble_eq_true rfl) ?_
  intro p e s m args below meth c C hret ht
  show qV p l e _ s m args below meth c g _ _ _ _ _ 0 [some (qR 0 0), some (qI a1), none, none] [] s0
  exact (qv_iload_n C dX7_tasksOn_0 rfl (qv_callS C (rest := []) (cb := 0) (sb := 0) (t_X7_requireDayZ hl a1 s0) mw_X7_requireDay lk_X7_210 st_X7_requireDay rfl (Nat.le_of_ble_eq_true rfl) (by decide) dX7_tasksOn_1 rfl (qkV (fun s1 => (qv_iconst C (v := (0 : Int32)) dX7_tasksOn_4 (by decide) (qv_istore_n C dX7_tasksOn_5 (by decide) rfl (qv_iconst C (v := (0 : Int32)) dX7_tasksOn_6 (by decide) (qv_istore_n C dX7_tasksOn_7 (by decide) rfl (qV.weak [true, true, true, true] (lt_X7_tasksOnZ_8 hl C hret ht  qFU a1 (0 : Int32) (0 : Int32) s1))))))))))
def f_X7_workloadZ (a1 : Int32) (s0 : qS) : Option qO :=
  qbind (f_X7_requireResourceZ a1 s0) (qvV (fun s1 =>
  qbind (f_X5_workOf 0 a1 s1) (qvI (fun r1 s2 =>
  (some (.inl (some (qI r1)), s2)))) qE0)) qE0
set_option maxRecDepth 100000 in
set_option maxHeartbeats 4000000 in
theorem t_X7_workloadZ {g : qG} {l : Launch} (hl : l.stackTraces = false) (a1 : Int32) (s0 : qS) : qM g l 3 0 0 (.code yX7_workload cX7_workload 2 (some .int)) yX7_workload [qR 0 0, qI a1] s0 (f_X7_workloadZ a1 s0) := by
  refine qM_of (by decide +kernel) hl (List.forall_mem_cons.mpr ⟨rfl, (List.forall_mem_cons.mpr ⟨rfl, (fun _ h => absurd h List.not_mem_nil)⟩)⟩) (Nat.le_of_ble_eq_true rfl) ?_
  intro p e s m args below meth c C hret ht
  show qV p l e _ s m args below meth c g _ _ _ _ _ 0 [some (qR 0 0), some (qI a1)] [] s0
  exact (qv_iload_n C dX7_workload_0 rfl (qv_callS C (rest := []) (cb := 0) (sb := 0) (t_X7_requireResourceZ hl a1 s0) mw_X7_requireResource lk_X7_158 st_X7_requireResource rfl (Nat.le_of_ble_eq_true rfl) (by decide) dX7_workload_1 rfl (qkV (fun s1 => (qv_aload_n C dX7_workload_4 rfl (qv_getR C (j2 := 0) fl_X7_12 cl_X7 rfl (by decide) (by decide) (by decide) rfl rfl dX7_workload_5 (qv_iload_n C dX7_workload_8 rfl (qv_callVN C (rest := []) (cb := 0) (sb := 0) (t_X5_workOf hl (show 0 < 11 from (by decide)) a1 s1) mw_X5_workOf lk_X7_225 in_X5_workOf se_X5_workOf rfl (by decide) (by decide) rfl rfl (Nat.le_of_ble_eq_true rfl) (by decide) dX7_workload_9 rfl (qkI (fun r1 s2 => (qv_iret C hret dX7_workload_12)))))))))))
def f_X7_workloadByDaysZ (a1 : Int32) (s0 : qS) : Option qO :=
  qbind (f_X7_requireResourceZ a1 s0) (qvV (fun s1 =>
  qbind (f_X7_currentPlan  s1) (qvS 11 (fun s2 =>
  qbind (f_X4_workOnAllDays a1 s2) (qvI (fun r1 s3 =>
  (some (.inl (some (qI r1)), s3)))) qE0)) qE0)) qE0
set_option maxRecDepth 100000 in
set_option maxHeartbeats 4000000 in
theorem t_X7_workloadByDaysZ {g : qG} {l : Launch} (hl : l.stackTraces = false) (a1 : Int32) (s0 : qS) : qM g l 24 0 0 (.code yX7_workloadByDays cX7_workloadByDays 2 (some .int)) yX7_workloadByDays [qR 0 0, qI a1] s0 (f_X7_workloadByDaysZ a1 s0) := by
  refine qM_of (by decide +kernel) hl (List.forall_mem_cons.mpr ⟨rfl, (List.forall_mem_cons.mpr ⟨rfl, (fun _ h => absurd h List.not_mem_nil)⟩)⟩) (Nat.le_of_ble_eq_true rfl) ?_
  intro p e s m args below meth c C hret ht
  show qV p l e _ s m args below meth c g _ _ _ _ _ 0 [some (qR 0 0), some (qI a1)] [] s0
  exact (qv_iload_n C dX7_workloadByDays_0 rfl (qv_callS C (rest := []) (cb := 0) (sb := 0) (t_X7_requireResourceZ hl a1 s0) mw_X7_requireResource lk_X7_158 st_X7_requireResource rfl (Nat.le_of_ble_eq_true rfl) (by decide) dX7_workloadByDays_1 rfl (qkV (fun s1 => (qv_aload_n C dX7_workloadByDays_4 rfl (qv_callV C (rest := []) (cb := 0) (sb := 0) (t_X7_currentPlan hl  s1) mw_X7_currentPlan lk_X7_135 in_X7_currentPlan se_X7_currentPlan rfl (by decide) (by decide) rfl rfl (Nat.le_of_ble_eq_true rfl) (by decide) dX7_workloadByDays_5 rfl (qkOne (fun s2 => (qv_iload_n C dX7_workloadByDays_8 rfl (qv_callVN C (rest := []) (cb := 0) (sb := 0) (t_X4_workOnAllDays hl a1 s2) mw_X4_workOnAllDays lk_X7_228 in_X4_workOnAllDays se_X4_workOnAllDays rfl (by decide) (by decide) rfl rfl (Nat.le_of_ble_eq_true rfl) (by decide) dX7_workloadByDays_9 rfl (qkI (fun r1 s3 => (qv_iret C hret dX7_workloadByDays_12)))))))))))))
def b_X7_taskBySlackZ_7 (rk7 : Int32 → Int32 → qS → Option qO) (v1 : Int32) (v3 : Int32) (s0 : qS) : Option qO :=
  (if (s0 1 0 7) ≤ v3 then qbind (f_X7_taskAtRankZ v1 s0) (qvI (fun r1 s2 =>
  (some (.inl (some (qI r1)), s2)))) qE0 else
  qbind (f_X4_slackOf v3 s0) (qvI (fun r2 s3 =>
  qbind (f_X7_at 2 0 v3 s3) (qvI (fun r3 s4 =>
  qbind (f_X7_sortingKey r2 r3 s4) (qvI (fun r4 s5 =>
  qbind (f_X7_put 25 0 v3 r4 s5) (qvV (fun s6 =>
  rk7 v1 (v3 + (1 : Int32)) s6)) qE0)) qE0)) qE0)) qE0)
def l_X7_taskBySlackZ_7 : Nat → Int32 → Int32 → qS → Option qO
  | 0, _, _, _ => none
  | n + 1, v1, v3, s0 => b_X7_taskBySlackZ_7  (l_X7_taskBySlackZ_7  n) v1 v3 s0
set_option maxRecDepth 100000 in
set_option maxHeartbeats 4000000 in
theorem bt_X7_taskBySlackZ_7 {p : Program} {l : Launch} {e : Env} {s : State} {m : MethodId} {args : Array Value} {below : List Frame} {meth : Method} {c : Code} {g : qG} (hl : l.stackTraces = false) (C : qC p l s m meth c cX7_taskBySlack 4 RX7 g) (hret : meth.sig.returnType = (some .int)) (ht : ∀ x ∈ c.exceptionTable.toList, False)  (rk7 : Int32 → Int32 → qS → Option qO) (hrk7 : ∀ (v1 : Int32) (v3 : Int32) (s0 : qS), qV p l e (qrm 24 0 0) s m args below meth c g 4 (qQf g below args s (qrm 24 0 0)) (rk7 v1 v3 s0) 0 0 7 [some (qR 0 0), some (qI v1), some (qR 11 0), some (qI v3)] [] s0) (v1 : Int32) (v3 : Int32) (s0 : qS) : qV p l e (qrm 24 0 0) s m args below meth c g 4 (qQf g below args s (qrm 24 0 0)) (b_X7_taskBySlackZ_7  rk7 v1 v3 s0) 0 0 7 [some (qR 0 0), some (qI v1), some (qR 11 0), some (qI v3)] [] s0 :=
  (qv_iload_n C dX7_taskBySlack_7 rfl (qv_aload_n C dX7_taskBySlack_8 rfl (qv_getR C (j2 := 0) fl_X7_12 cl_X7 rfl (by decide) (by decide) (by decide) rfl rfl dX7_taskBySlack_9 (qv_getI C fl_X7_88 cl_X5 rfl (by decide) (by decide) (by decide) rfl dX7_taskBySlack_12 (qv_icmp_ge C (tgt := 51) dX7_taskBySlack_15 (by decide) (fun _ => (qv_aload_n C dX7_taskBySlack_51 rfl (qv_iload_n C dX7_taskBySlack_52 rfl (qv_callV C (rest := []) (cb := 0) (sb := 0) (t_X7_taskAtRankZ hl v1 s0) mw_X7_taskAtRank lk_X7_256 in_X7_taskAtRank se_X7_taskAtRank rfl (by decide) (by decide) rfl rfl (Nat.le_of_ble_eq_true rfl) (by decide) dX7_taskBySlack_53 rfl (qkI (fun r1 s2 => (qv_iret C hret dX7_taskBySlack_56)))))))
  (fun _ => (qv_aload_n C dX7_taskBySlack_18 rfl (qv_getR C (j2 := 0) fl_X7_50 cl_X7 rfl (by decide) (by decide) (by decide) rfl rfl dX7_taskBySlack_19 (qv_iload_n C dX7_taskBySlack_22 rfl (qv_aload_n C dX7_taskBySlack_23 rfl (qv_iload_n C dX7_taskBySlack_24 rfl (qv_callVN C (rest := [qI v3, qR 25 0]) (cb := 0) (sb := 0) (t_X4_slackOf hl v3 s0) mw_X4_slackOf lk_X7_202 in_X4_slackOf se_X4_slackOf rfl (by decide) (by decide) rfl rfl (Nat.le_of_ble_eq_true rfl) (by decide) dX7_taskBySlack_25 rfl (qkI (fun r2 s3 => (qv_aload_n C dX7_taskBySlack_28 rfl (qv_getR C (j2 := 0) fl_X7_12 cl_X7 rfl (by decide) (by decide) (by decide) rfl rfl dX7_taskBySlack_29 (qv_getR C (j2 := 0) fl_X7_112 cl_X5 rfl (by decide) (by decide) (by decide) rfl rfl dX7_taskBySlack_32 (qv_iload_n C dX7_taskBySlack_35 rfl (qv_callS C (rest := [qI r2, qI v3, qR 25 0]) (cb := 0) (sb := 0) (t_X7_at hl rfl (by decide) (by decide) v3 s3) mw_X7_at lk_X7_115 st_X7_at rfl (Nat.le_of_ble_eq_true rfl) (by decide) dX7_taskBySlack_36 rfl (qkI (fun r3 s4 => (qv_callS C (rest := [qI v3, qR 25 0]) (cb := 0) (sb := 0) (t_X7_sortingKey hl r2 r3 s4) mw_X7_sortingKey lk_X7_253 st_X7_sortingKey rfl (Nat.le_of_ble_eq_true rfl) (by decide) dX7_taskBySlack_39 rfl (qkI (fun r4 s5 => (qv_callS C (rest := []) (cb := 0) (sb := 0) (t_X7_put hl rfl (by decide) (by decide) v3 r4 s5) mw_X7_put lk_X7_119 st_X7_put rfl (Nat.le_of_ble_eq_true rfl) (by decide) dX7_taskBySlack_42 rfl (qkV (fun s6 => (qv_iinc C (v := (v3 + (1 : Int32))) dX7_taskBySlack_45 rfl rfl (by decide) rfl (qv_goto C (tgt := 7) dX7_taskBySlack_48 (by decide) (qV.weak [true, true, true, true] (hrk7 v1 (v3 + (1 : Int32)) s6)))))))))))))))))))))))))))))))
theorem lt_X7_taskBySlackZ_7 {p : Program} {l : Launch} {e : Env} {s : State} {m : MethodId} {args : Array Value} {below : List Frame} {meth : Method} {c : Code} {g : qG} (hl : l.stackTraces = false) (C : qC p l s m meth c cX7_taskBySlack 4 RX7 g) (hret : meth.sig.returnType = (some .int)) (ht : ∀ x ∈ c.exceptionTable.toList, False)  : ∀ (n : Nat) (v1 : Int32) (v3 : Int32) (s0 : qS), qV p l e (qrm 24 0 0) s m args below meth c g 4 (qQf g below args s (qrm 24 0 0)) (l_X7_taskBySlackZ_7  n v1 v3 s0) 0 0 7 [some (qR 0 0), some (qI v1), some (qR 11 0), some (qI v3)] [] s0
  | 0, _, _, _ => qV.no
  | n + 1, v1, v3, s0 => bt_X7_taskBySlackZ_7 hl C hret ht  _ (lt_X7_taskBySlackZ_7 hl C hret ht  n) v1 v3 s0
def f_X7_taskBySlackZ (a1 : Int32) (s0 : qS) : Option qO :=
  qbind (f_X7_currentPlan  s0) (qvS 11 (fun s1 =>
  l_X7_taskBySlackZ_7  qFU a1 (0 : Int32) s1)) qE0
set_option maxRecDepth 100000 in
set_option maxHeartbeats 4000000 in
theorem t_X7_taskBySlackZ {g : qG} {l : Launch} (hl : l.stackTraces = false) (a1 : Int32) (s0 : qS) : qM g l 24 0 0 (.code yX7_taskBySlack cX7_taskBySlack 4 (some .int)) yX7_taskBySlack [qR 0 0, qI a1] s0 (f_X7_taskBySlackZ a1 s0) := by
  refine qM_of (by decide +kernel) hl (List.forall_mem_cons.mpr ⟨rfl, (List.forall_mem_cons.mpr ⟨rfl, (fun _ h => absurd h List.not_mem_nil)⟩)⟩) (Nat.le_of_ble_eq_true rfl) ?_
  intro p e s m args below meth c C hret ht
  show qV p l e _ s m args below meth c g _ _ _ _ _ 0 [some (qR 0 0), some (qI a1), none, none] [] s0
  exact (qv_aload_n C dX7_taskBySlack_0 rfl (qv_callV C (rest := []) (cb := 0) (sb := 0) (t_X7_currentPlan hl  s0) mw_X7_currentPlan lk_X7_135 in_X7_currentPlan se_X7_currentPlan rfl (by decide) (by decide) rfl rfl (Nat.le_of_ble_eq_true rfl) (by decide) dX7_taskBySlack_1 rfl (qkOne (fun s1 => (qv_astore_n C dX7_taskBySlack_4 (by decide) rfl (qv_iconst C (v := (0 : Int32)) dX7_taskBySlack_5 (by decide) (qv_istore_n C dX7_taskBySlack_6 (by decide) rfl (qV.weak [true, true, true, true] (lt_X7_taskBySlackZ_7 hl C hret ht  qFU a1 (0 : Int32) s1)))))))))
def b_X7_taskByStartZ_7 (rk7 : Int32 → Int32 → qS → Option qO) (v1 : Int32) (v3 : Int32) (s0 : qS) : Option qO :=
  (if (s0 1 0 7) ≤ v3 then qbind (f_X7_taskAtRankZ v1 s0) (qvI (fun r1 s2 =>
  (some (.inl (some (qI r1)), s2)))) qE0 else
  qbind (f_X7_at 17 0 v3 s0) (qvI (fun r2 s3 =>
  qbind (f_X7_at 4 0 v3 s3) (qvI (fun r3 s4 =>
  qbind (f_X7_sortingKey r2 r3 s4) (qvI (fun r4 s5 =>
  qbind (f_X7_put 25 0 v3 r4 s5) (qvV (fun s6 =>
  rk7 v1 (v3 + (1 : Int32)) s6)) qE0)) qE0)) qE0)) qE0)
def l_X7_taskByStartZ_7 : Nat → Int32 → Int32 → qS → Option qO
  | 0, _, _, _ => none
  | n + 1, v1, v3, s0 => b_X7_taskByStartZ_7  (l_X7_taskByStartZ_7  n) v1 v3 s0
set_option maxRecDepth 100000 in
set_option maxHeartbeats 4000000 in
theorem bt_X7_taskByStartZ_7 {p : Program} {l : Launch} {e : Env} {s : State} {m : MethodId} {args : Array Value} {below : List Frame} {meth : Method} {c : Code} {g : qG} (hl : l.stackTraces = false) (C : qC p l s m meth c cX7_taskByStart 4 RX7 g) (hret : meth.sig.returnType = (some .int)) (ht : ∀ x ∈ c.exceptionTable.toList, False)  (rk7 : Int32 → Int32 → qS → Option qO) (hrk7 : ∀ (v1 : Int32) (v3 : Int32) (s0 : qS), qV p l e (qrm 24 0 0) s m args below meth c g 4 (qQf g below args s (qrm 24 0 0)) (rk7 v1 v3 s0) 0 0 7 [some (qR 0 0), some (qI v1), some (qR 11 0), some (qI v3)] [] s0) (v1 : Int32) (v3 : Int32) (s0 : qS) : qV p l e (qrm 24 0 0) s m args below meth c g 4 (qQf g below args s (qrm 24 0 0)) (b_X7_taskByStartZ_7  rk7 v1 v3 s0) 0 0 7 [some (qR 0 0), some (qI v1), some (qR 11 0), some (qI v3)] [] s0 :=
  (qv_iload_n C dX7_taskByStart_7 rfl (qv_aload_n C dX7_taskByStart_8 rfl (qv_getR C (j2 := 0) fl_X7_12 cl_X7 rfl (by decide) (by decide) (by decide) rfl rfl dX7_taskByStart_9 (qv_getI C fl_X7_88 cl_X5 rfl (by decide) (by decide) (by decide) rfl dX7_taskByStart_12 (qv_icmp_ge C (tgt := 54) dX7_taskByStart_15 (by decide) (fun _ => (qv_aload_n C dX7_taskByStart_54 rfl (qv_iload_n C dX7_taskByStart_55 rfl (qv_callV C (rest := []) (cb := 0) (sb := 0) (t_X7_taskAtRankZ hl v1 s0) mw_X7_taskAtRank lk_X7_256 in_X7_taskAtRank se_X7_taskAtRank rfl (by decide) (by decide) rfl rfl (Nat.le_of_ble_eq_true rfl) (by decide) dX7_taskByStart_56 rfl (qkI (fun r1 s2 => (qv_iret C hret dX7_taskByStart_59)))))))
  (fun _ => (qv_aload_n C dX7_taskByStart_18 rfl (qv_getR C (j2 := 0) fl_X7_50 cl_X7 rfl (by decide) (by decide) (by decide) rfl rfl dX7_taskByStart_19 (qv_iload_n C dX7_taskByStart_22 rfl (qv_aload_n C dX7_taskByStart_23 rfl (qv_getR C (j2 := 0) fl_X7_139 cl_X4 rfl (by decide) (by decide) (by decide) rfl rfl dX7_taskByStart_24 (qv_iload_n C dX7_taskByStart_27 rfl (qv_callS C (rest := [qI v3, qR 25 0]) (cb := 0) (sb := 0) (t_X7_at hl rfl (by decide) (by decide) v3 s0) mw_X7_at lk_X7_115 st_X7_at rfl (Nat.le_of_ble_eq_true rfl) (by decide) dX7_taskByStart_28 rfl (qkI (fun r2 s3 => (qv_aload_n C dX7_taskByStart_31 rfl (qv_getR C (j2 := 0) fl_X7_12 cl_X7 rfl (by decide) (by decide) (by decide) rfl rfl dX7_taskByStart_32 (qv_getR C (j2 := 0) fl_X7_155 cl_X5 rfl (by decide) (by decide) (by decide) rfl rfl dX7_taskByStart_35 (qv_iload_n C dX7_taskByStart_38 rfl (qv_callS C (rest := [qI r2, qI v3, qR 25 0]) (cb := 0) (sb := 0) (t_X7_at hl rfl (by decide) (by decide) v3 s3) mw_X7_at lk_X7_115 st_X7_at rfl (Nat.le_of_ble_eq_true rfl) (by decide) dX7_taskByStart_39 rfl (qkI (fun r3 s4 => (qv_callS C (rest := [qI v3, qR 25 0]) (cb := 0) (sb := 0) (t_X7_sortingKey hl r2 r3 s4) mw_X7_sortingKey lk_X7_253 st_X7_sortingKey rfl (Nat.le_of_ble_eq_true rfl) (by decide) dX7_taskByStart_42 rfl (qkI (fun r4 s5 => (qv_callS C (rest := []) (cb := 0) (sb := 0) (t_X7_put hl rfl (by decide) (by decide) v3 r4 s5) mw_X7_put lk_X7_119 st_X7_put rfl (Nat.le_of_ble_eq_true rfl) (by decide) dX7_taskByStart_45 rfl (qkV (fun s6 => (qv_iinc C (v := (v3 + (1 : Int32))) dX7_taskByStart_48 rfl rfl (by decide) rfl (qv_goto C (tgt := 7) dX7_taskByStart_51 (by decide) (qV.weak [true, true, true, true] (hrk7 v1 (v3 + (1 : Int32)) s6))))))))))))))))))))))))))))))))
theorem lt_X7_taskByStartZ_7 {p : Program} {l : Launch} {e : Env} {s : State} {m : MethodId} {args : Array Value} {below : List Frame} {meth : Method} {c : Code} {g : qG} (hl : l.stackTraces = false) (C : qC p l s m meth c cX7_taskByStart 4 RX7 g) (hret : meth.sig.returnType = (some .int)) (ht : ∀ x ∈ c.exceptionTable.toList, False)  : ∀ (n : Nat) (v1 : Int32) (v3 : Int32) (s0 : qS), qV p l e (qrm 24 0 0) s m args below meth c g 4 (qQf g below args s (qrm 24 0 0)) (l_X7_taskByStartZ_7  n v1 v3 s0) 0 0 7 [some (qR 0 0), some (qI v1), some (qR 11 0), some (qI v3)] [] s0
  | 0, _, _, _ => qV.no
  | n + 1, v1, v3, s0 => bt_X7_taskByStartZ_7 hl C hret ht  _ (lt_X7_taskByStartZ_7 hl C hret ht  n) v1 v3 s0
def f_X7_taskByStartZ (a1 : Int32) (s0 : qS) : Option qO :=
  qbind (f_X7_currentPlan  s0) (qvS 11 (fun s1 =>
  l_X7_taskByStartZ_7  qFU a1 (0 : Int32) s1)) qE0
set_option maxRecDepth 100000 in
set_option maxHeartbeats 4000000 in
theorem t_X7_taskByStartZ {g : qG} {l : Launch} (hl : l.stackTraces = false) (a1 : Int32) (s0 : qS) : qM g l 24 0 0 (.code yX7_taskByStart cX7_taskByStart 4 (some .int)) yX7_taskByStart [qR 0 0, qI a1] s0 (f_X7_taskByStartZ a1 s0) := by
  refine qM_of (by decide +kernel) hl (List.forall_mem_cons.mpr ⟨rfl, (List.forall_mem_cons.mpr ⟨rfl, (fun _ h => absurd h List.not_mem_nil)⟩)⟩) (Nat.le_of_ble_eq_true rfl) ?_
  intro p e s m args below meth c C hret ht
  show qV p l e _ s m args below meth c g _ _ _ _ _ 0 [some (qR 0 0), some (qI a1), none, none] [] s0
  exact (qv_aload_n C dX7_taskByStart_0 rfl (qv_callV C (rest := []) (cb := 0) (sb := 0) (t_X7_currentPlan hl  s0) mw_X7_currentPlan lk_X7_135 in_X7_currentPlan se_X7_currentPlan rfl (by decide) (by decide) rfl rfl (Nat.le_of_ble_eq_true rfl) (by decide) dX7_taskByStart_1 rfl (qkOne (fun s1 => (qv_astore_n C dX7_taskByStart_4 (by decide) rfl (qv_iconst C (v := (0 : Int32)) dX7_taskByStart_5 (by decide) (qv_istore_n C dX7_taskByStart_6 (by decide) rfl (qV.weak [true, true, true, true] (lt_X7_taskByStartZ_7 hl C hret ht  qFU a1 (0 : Int32) s1)))))))))
def b_X7_meanSlackZ_32 (rk32 : Int32 → Int32 → Int32 → qS → Option qO) (v1 : Int32) (v3 : Int32) (v4 : Int32) (s0 : qS) : Option qO :=
  (if v1 ≤ v4 then (if qn64 (FP.ddiv (FP.i2d v3) (FP.i2d v1)) then (some (.inl (some (.inl (.double (FP.ddiv (FP.i2d v3) (FP.i2d v1))))), s0)) else none) else
  qbind (f_X4_slackOf v4 s0) (qvI (fun r1 s2 =>
  rk32 v1 (v3 + r1) (v4 + (1 : Int32)) s2)) qE0)
def l_X7_meanSlackZ_32 : Nat → Int32 → Int32 → Int32 → qS → Option qO
  | 0, _, _, _, _ => none
  | n + 1, v1, v3, v4, s0 => b_X7_meanSlackZ_32  (l_X7_meanSlackZ_32  n) v1 v3 v4 s0
set_option maxRecDepth 100000 in
set_option maxHeartbeats 4000000 in
theorem bt_X7_meanSlackZ_32 {p : Program} {l : Launch} {e : Env} {s : State} {m : MethodId} {args : Array Value} {below : List Frame} {meth : Method} {c : Code} {g : qG} (hl : l.stackTraces = false) (C : qC p l s m meth c cX7_meanSlack 5 RX7 g) (hret : meth.sig.returnType = (some .double)) (ht : ∀ x ∈ c.exceptionTable.toList, False)  (rk32 : Int32 → Int32 → Int32 → qS → Option qO) (hrk32 : ∀ (v1 : Int32) (v3 : Int32) (v4 : Int32) (s0 : qS), qV p l e (qrm 24 0 0) s m args below meth c g 5 (qQf g below args s (qrm 24 0 0)) (rk32 v1 v3 v4 s0) 0 0 32 [none, some (qI v1), some (qR 11 0), some (qI v3), some (qI v4)] [] s0) (v1 : Int32) (v3 : Int32) (v4 : Int32) (s0 : qS) : qV p l e (qrm 24 0 0) s m args below meth c g 5 (qQf g below args s (qrm 24 0 0)) (b_X7_meanSlackZ_32  rk32 v1 v3 v4 s0) 0 0 32 [none, some (qI v1), some (qR 11 0), some (qI v3), some (qI v4)] [] s0 :=
  (qv_iload C dX7_meanSlack_32 rfl (qv_iload_n C dX7_meanSlack_34 rfl (qv_icmp_ge C (tgt := 53) dX7_meanSlack_35 (by decide) (fun _ => (qv_iload_n C dX7_meanSlack_53 rfl (qv_i2d C dX7_meanSlack_54 (qv_iload_n C dX7_meanSlack_55 rfl (qv_i2d C dX7_meanSlack_56 (qv_ddiv C dX7_meanSlack_57 (fun _ => (qv_dret C hret dX7_meanSlack_58))))))))
  (fun _ => (qv_iload_n C dX7_meanSlack_38 rfl (qv_aload_n C dX7_meanSlack_39 rfl (qv_iload C dX7_meanSlack_40 rfl (qv_callVN C (rest := [qI v3]) (cb := 0) (sb := 0) (t_X4_slackOf hl v4 s0) mw_X4_slackOf lk_X7_202 in_X4_slackOf se_X4_slackOf rfl (by decide) (by decide) rfl rfl (Nat.le_of_ble_eq_true rfl) (by decide) dX7_meanSlack_42 rfl (qkI (fun r1 s2 => (qv_iadd C dX7_meanSlack_45 (qv_istore_n C dX7_meanSlack_46 (by decide) rfl (qv_iinc C (v := (v4 + (1 : Int32))) dX7_meanSlack_47 rfl rfl (by decide) rfl (qv_goto C (tgt := 32) dX7_meanSlack_50 (by decide) (qV.weak [false, true, true, true, true] (hrk32 v1 (v3 + r1) (v4 + (1 : Int32)) s2))))))))))))))))
theorem lt_X7_meanSlackZ_32 {p : Program} {l : Launch} {e : Env} {s : State} {m : MethodId} {args : Array Value} {below : List Frame} {meth : Method} {c : Code} {g : qG} (hl : l.stackTraces = false) (C : qC p l s m meth c cX7_meanSlack 5 RX7 g) (hret : meth.sig.returnType = (some .double)) (ht : ∀ x ∈ c.exceptionTable.toList, False)  : ∀ (n : Nat) (v1 : Int32) (v3 : Int32) (v4 : Int32) (s0 : qS), qV p l e (qrm 24 0 0) s m args below meth c g 5 (qQf g below args s (qrm 24 0 0)) (l_X7_meanSlackZ_32  n v1 v3 v4 s0) 0 0 32 [none, some (qI v1), some (qR 11 0), some (qI v3), some (qI v4)] [] s0
  | 0, _, _, _, _ => qV.no
  | n + 1, v1, v3, v4, s0 => bt_X7_meanSlackZ_32 hl C hret ht  _ (lt_X7_meanSlackZ_32 hl C hret ht  n) v1 v3 v4 s0
def f_X7_meanSlackZ  (s0 : qS) : Option qO :=
  (if (s0 1 0 7) = 0 then none else
  qbind (f_X7_currentPlan  s0) (qvS 11 (fun s1 =>
  l_X7_meanSlackZ_32  qFU (s0 1 0 7) (0 : Int32) (0 : Int32) s1)) qE0)
set_option maxRecDepth 100000 in
set_option maxHeartbeats 4000000 in
theorem t_X7_meanSlackZ {g : qG} {l : Launch} (hl : l.stackTraces = false)  (s0 : qS) : qM g l 24 0 0 (.code yX7_meanSlack cX7_meanSlack 5 (some .double)) yX7_meanSlack [qR 0 0] s0 (f_X7_meanSlackZ  s0) := by
  refine qM_of (by decide +kernel) hl (List.forall_mem_cons.mpr ⟨rfl, (fun _ h => absurd h List.not_mem_nil)⟩) (Nat.le_of_ble_eq_true rfl) ?_
  intro p e s m args below meth c C hret ht
  show qV p l e _ s m args below meth c g _ _ _ _ _ 0 [some (qR 0 0), none, none, none, none] [] s0
  exact (qv_aload_n C dX7_meanSlack_0 rfl (qv_getR C (j2 := 0) fl_X7_12 cl_X7 rfl (by decide) (by decide) (by decide) rfl rfl dX7_meanSlack_1 (qv_getI C fl_X7_88 cl_X5 rfl (by decide) (by decide) (by decide) rfl dX7_meanSlack_4 (qv_istore_n C dX7_meanSlack_7 (by decide) rfl (qv_iload_n C dX7_meanSlack_8 rfl (qv_if_ne C (tgt := 22) dX7_meanSlack_9 (by decide) (fun _ => qV.no)
  (fun _ => (qv_aload_n C dX7_meanSlack_22 rfl (qv_callV C (rest := []) (cb := 0) (sb := 0) (t_X7_currentPlan hl  s0) mw_X7_currentPlan lk_X7_135 in_X7_currentPlan se_X7_currentPlan rfl (by decide) (by decide) rfl rfl (Nat.le_of_ble_eq_true rfl) (by decide) dX7_meanSlack_23 rfl (qkOne (fun s1 => (qv_astore_n C dX7_meanSlack_26 (by decide) rfl (qv_iconst C (v := (0 : Int32)) dX7_meanSlack_27 (by decide) (qv_istore_n C dX7_meanSlack_28 (by decide) rfl (qv_iconst C (v := (0 : Int32)) dX7_meanSlack_29 (by decide) (qv_istore C dX7_meanSlack_30 (by decide) rfl (qV.weak [false, true, true, true, true] (lt_X7_meanSlackZ_32 hl C hret ht  qFU (s0 1 0 7) (0 : Int32) (0 : Int32) s1))))))))))))))))))
def f_X7_utilizationZ (a1 : Int32) (s0 : qS) : Option qO :=
  qbind (f_X7_requireResourceZ a1 s0) (qvV (fun s1 =>
  qbind (f_X7_at 8 0 a1 s1) (qvI (fun r1 s2 =>
  qbind (f_X7_currentPlan  s2) (qvS 11 (fun s3 =>
  (if (r1 * (s3 11 0 8)) = 0 then none else
  qbind (f_X5_workOf 0 a1 s3) (qvI (fun r2 s4 =>
  (if qn32 (FP.fdiv (FP.i2f r2) (FP.i2f (r1 * (s3 11 0 8)))) then (some (.inl (some (.inl (.float (FP.fdiv (FP.i2f r2) (FP.i2f (r1 * (s3 11 0 8))))))), s4)) else none))) qE0))) qE0)) qE0)) qE0
set_option maxRecDepth 100000 in
set_option maxHeartbeats 4000000 in
theorem t_X7_utilizationZ {g : qG} {l : Launch} (hl : l.stackTraces = false) (a1 : Int32) (s0 : qS) : qM g l 24 0 0 (.code yX7_utilization cX7_utilization 3 (some .float)) yX7_utilization [qR 0 0, qI a1] s0 (f_X7_utilizationZ a1 s0) := by
  refine qM_of (by decide +kernel) hl (List.forall_mem_cons.mpr ⟨rfl, (List.forall_mem_cons.mpr ⟨rfl, (fun _ h => absurd h List.not_mem_nil)⟩)⟩) (Nat.le_of_ble_eq_true rfl) ?_
  intro p e s m args below meth c C hret ht
  show qV p l e _ s m args below meth c g _ _ _ _ _ 0 [some (qR 0 0), some (qI a1), none] [] s0
  exact (qv_iload_n C dX7_utilization_0 rfl (qv_callS C (rest := []) (cb := 0) (sb := 0) (t_X7_requireResourceZ hl a1 s0) mw_X7_requireResource lk_X7_158 st_X7_requireResource rfl (Nat.le_of_ble_eq_true rfl) (by decide) dX7_utilization_1 rfl (qkV (fun s1 => (qv_aload_n C dX7_utilization_4 rfl (qv_getR C (j2 := 0) fl_X7_12 cl_X7 rfl (by decide) (by decide) (by decide) rfl rfl dX7_utilization_5 (qv_getR C (j2 := 0) fl_X7_132 cl_X5 rfl (by decide) (by decide) (by decide) rfl rfl dX7_utilization_8 (qv_iload_n C dX7_utilization_11 rfl (qv_callS C (rest := []) (cb := 0) (sb := 0) (t_X7_at hl rfl (by decide) (by decide) a1 s1) mw_X7_at lk_X7_115 st_X7_at rfl (Nat.le_of_ble_eq_true rfl) (by decide) dX7_utilization_12 rfl (qkI (fun r1 s2 => (qv_aload_n C dX7_utilization_15 rfl (qv_callV C (rest := [qI r1]) (cb := 0) (sb := 0) (t_X7_currentPlan hl  s2) mw_X7_currentPlan lk_X7_135 in_X7_currentPlan se_X7_currentPlan rfl (by decide) (by decide) rfl rfl (Nat.le_of_ble_eq_true rfl) (by decide) dX7_utilization_16 rfl (qkOne (fun s3 => (qv_getI C fl_X7_146 cl_X4 rfl (by decide) (by decide) (by decide) rfl dX7_utilization_19 (qv_imul C dX7_utilization_22 (qv_istore_n C dX7_utilization_23 (by decide) rfl (qv_iload_n C dX7_utilization_24 rfl (qv_if_ne C (tgt := 38) dX7_utilization_25 (by decide) (fun _ => qV.no)
  (fun _ => (qv_aload_n C dX7_utilization_38 rfl (qv_getR C (j2 := 0) fl_X7_12 cl_X7 rfl (by decide) (by decide) (by decide) rfl rfl dX7_utilization_39 (qv_iload_n C dX7_utilization_42 rfl (qv_callVN C (rest := []) (cb := 0) (sb := 0) (t_X5_workOf hl (show 0 < 11 from (by decide)) a1 s3) mw_X5_workOf lk_X7_225 in_X5_workOf se_X5_workOf rfl (by decide) (by decide) rfl rfl (Nat.le_of_ble_eq_true rfl) (by decide) dX7_utilization_43 rfl (qkI (fun r2 s4 => (qv_i2f C dX7_utilization_46 (qv_iload_n C dX7_utilization_47 rfl (qv_i2f C dX7_utilization_48 (qv_fdiv C dX7_utilization_49 (fun _ => (qv_fret C hret dX7_utilization_50)))))))))))))))))))))))))))))))))
def b_X7_renderTaskZ_149 (rk149 : Int32 → Int32 → qS → Option qO) (v1 : Int32) (v3 : Int32) (s0 : qS) : Option qO :=
  (if (s0 1 0 7) ≤ v3 then (some (.inl (some (qI (s0 23 0 1))), s0)) else
  qbind (f_X5_isLinked 0 v1 v3 s0) (qvI (fun r6 s19 =>
  (if r6 = 0 then rk149 v1 (v3 + (1 : Int32)) s19 else
  qbind (f_X3_write (60 : Int32) s19) (qvV (fun s20 =>
  qbind (f_X3_writeNumber v3 s20) (qvV (fun s21 =>
  rk149 v1 (v3 + (1 : Int32)) s21)) qE0)) qE0))) qE0)
def l_X7_renderTaskZ_149 : Nat → Int32 → Int32 → qS → Option qO
  | 0, _, _, _ => none
  | n + 1, v1, v3, s0 => b_X7_renderTaskZ_149  (l_X7_renderTaskZ_149  n) v1 v3 s0
set_option maxRecDepth 100000 in
set_option maxHeartbeats 4000000 in
theorem bt_X7_renderTaskZ_149 {p : Program} {l : Launch} {e : Env} {s : State} {m : MethodId} {args : Array Value} {below : List Frame} {meth : Method} {c : Code} {g : qG} (hl : l.stackTraces = false) (C : qC p l s m meth c cX7_renderTask 4 RX7 g) (hret : meth.sig.returnType = (some .int)) (ht : ∀ x ∈ c.exceptionTable.toList, False)  (rk149 : Int32 → Int32 → qS → Option qO) (hrk149 : ∀ (v1 : Int32) (v3 : Int32) (s0 : qS), qV p l e (qrm 24 0 0) s m args below meth c g 4 (qQf g below args s (qrm 24 0 0)) (rk149 v1 v3 s0) 0 0 149 [some (qR 0 0), some (qI v1), none, some (qI v3)] [] s0) (v1 : Int32) (v3 : Int32) (s0 : qS) : qV p l e (qrm 24 0 0) s m args below meth c g 4 (qQf g below args s (qrm 24 0 0)) (b_X7_renderTaskZ_149  rk149 v1 v3 s0) 0 0 149 [some (qR 0 0), some (qI v1), none, some (qI v3)] [] s0 :=
  (qv_iload_n C dX7_renderTask_149 rfl (qv_aload_n C dX7_renderTask_150 rfl (qv_getR C (j2 := 0) fl_X7_12 cl_X7 rfl (by decide) (by decide) (by decide) rfl rfl dX7_renderTask_151 (qv_getI C fl_X7_88 cl_X5 rfl (by decide) (by decide) (by decide) rfl dX7_renderTask_154 (qv_icmp_ge C (tgt := 195) dX7_renderTask_157 (by decide) (fun _ => (qv_aload_n C dX7_renderTask_195 rfl (qv_getR C (j2 := 0) fl_X7_46 cl_X7 rfl (by decide) (by decide) (by decide) rfl rfl dX7_renderTask_196 (qv_getI C fl_X7_281 cl_X3 rfl (by decide) (by decide) (by decide) rfl dX7_renderTask_199 (qv_iret C hret dX7_renderTask_202)))))
  (fun _ => (qv_aload_n C dX7_renderTask_160 rfl (qv_getR C (j2 := 0) fl_X7_12 cl_X7 rfl (by decide) (by decide) (by decide) rfl rfl dX7_renderTask_161 (qv_iload_n C dX7_renderTask_164 rfl (qv_iload_n C dX7_renderTask_165 rfl (qv_callVN C (rest := []) (cb := 0) (sb := 0) (t_X5_isLinked hl (show 0 < 11 from (by decide)) v1 v3 s0) mw_X5_isLinked lk_X7_95 in_X5_isLinked se_X5_isLinked rfl (by decide) (by decide) rfl rfl (Nat.le_of_ble_eq_true rfl) (by decide) dX7_renderTask_166 rfl (qkI (fun r6 s19 => (qv_if_eq C (tgt := 189) dX7_renderTask_169 (by decide) (fun _ => (qv_iinc C (v := (v3 + (1 : Int32))) dX7_renderTask_189 rfl rfl (by decide) rfl (qv_goto C (tgt := 149) dX7_renderTask_192 (by decide) (qV.weak [true, true, false, true] (hrk149 v1 (v3 + (1 : Int32)) s19)))))
  (fun _ => (qv_aload_n C dX7_renderTask_172 rfl (qv_getR C (j2 := 0) fl_X7_46 cl_X7 rfl (by decide) (by decide) (by decide) rfl rfl dX7_renderTask_173 (qv_bipush C (v := (60 : Int32)) dX7_renderTask_176 (by decide) (qv_callVN C (rest := []) (cb := 0) (sb := 0) (t_X3_write hl (60 : Int32) s19) mw_X3_write lk_X7_278 in_X3_write se_X3_write rfl (by decide) (by decide) rfl rfl (Nat.le_of_ble_eq_true rfl) (by decide) dX7_renderTask_178 rfl (qkV (fun s20 => (qv_aload_n C dX7_renderTask_181 rfl (qv_getR C (j2 := 0) fl_X7_46 cl_X7 rfl (by decide) (by decide) (by decide) rfl rfl dX7_renderTask_182 (qv_iload_n C dX7_renderTask_185 rfl (qv_callVN C (rest := []) (cb := 0) (sb := 0) (t_X3_writeNumber hl v3 s20) mw_X3_writeNumber lk_X7_275 in_X3_writeNumber se_X3_writeNumber rfl (by decide) (by decide) rfl rfl (Nat.le_of_ble_eq_true rfl) (by decide) dX7_renderTask_186 rfl (qkV (fun s21 => (qv_iinc C (v := (v3 + (1 : Int32))) dX7_renderTask_189 rfl rfl (by decide) rfl (qv_goto C (tgt := 149) dX7_renderTask_192 (by decide) (qV.weak [true, true, false, true] (hrk149 v1 (v3 + (1 : Int32)) s21)))))))))))))))))))))))))))))))
theorem lt_X7_renderTaskZ_149 {p : Program} {l : Launch} {e : Env} {s : State} {m : MethodId} {args : Array Value} {below : List Frame} {meth : Method} {c : Code} {g : qG} (hl : l.stackTraces = false) (C : qC p l s m meth c cX7_renderTask 4 RX7 g) (hret : meth.sig.returnType = (some .int)) (ht : ∀ x ∈ c.exceptionTable.toList, False)  : ∀ (n : Nat) (v1 : Int32) (v3 : Int32) (s0 : qS), qV p l e (qrm 24 0 0) s m args below meth c g 4 (qQf g below args s (qrm 24 0 0)) (l_X7_renderTaskZ_149  n v1 v3 s0) 0 0 149 [some (qR 0 0), some (qI v1), none, some (qI v3)] [] s0
  | 0, _, _, _ => qV.no
  | n + 1, v1, v3, s0 => bt_X7_renderTaskZ_149 hl C hret ht  _ (lt_X7_renderTaskZ_149 hl C hret ht  n) v1 v3 s0
def f_X7_renderTaskZ (a1 : Int32) (s0 : qS) : Option qO :=
  qbind (f_X7_requireTaskZ a1 s0) (qvV (fun s1 =>
  qbind (f_X7_currentPlan  s1) (qvS 11 (fun s2 =>
  qbind (f_X3_clear  s2) (qvV (fun s3 =>
  qbind (f_X3_writeNumber a1 s3) (qvV (fun s4 =>
  qbind (f_X3_write (58 : Int32) s4) (qvV (fun s5 =>
  qbind (f_X7_at 2 0 a1 s5) (qvI (fun r1 s6 =>
  qbind (f_X3_writeNumber r1 s6) (qvV (fun s7 =>
  qbind (f_X3_write (120 : Int32) s7) (qvV (fun s8 =>
  qbind (f_X7_at 4 0 a1 s8) (qvI (fun r2 s9 =>
  qbind (f_X3_writeNumber r2 s9) (qvV (fun s10 =>
  qbind (f_X3_write (114 : Int32) s10) (qvV (fun s11 =>
  qbind (f_X7_at 3 0 a1 s11) (qvI (fun r3 s12 =>
  qbind (f_X3_writeNumber r3 s12) (qvV (fun s13 =>
  qbind (f_X3_write (64 : Int32) s13) (qvV (fun s14 =>
  qbind (f_X7_at 17 0 a1 s14) (qvI (fun r4 s15 =>
  qbind (f_X3_writeNumber r4 s15) (qvV (fun s16 =>
  qbind (f_X4_slackOf a1 s16) (qvI (fun r5 s17 =>
  (if r5 = 0 then qbind (f_X3_write (33 : Int32) s17) (qvV (fun s18 =>
  l_X7_renderTaskZ_149  qFU a1 (0 : Int32) s18)) qE0 else
  l_X7_renderTaskZ_149  qFU a1 (0 : Int32) s17))) qE0)) qE0)) qE0)) qE0)) qE0)) qE0)) qE0)) qE0)) qE0)) qE0)) qE0)) qE0)) qE0)) qE0)) qE0)) qE0)) qE0
set_option maxRecDepth 100000 in
set_option maxHeartbeats 4000000 in
theorem t_X7_renderTaskZ {g : qG} {l : Launch} (hl : l.stackTraces = false) (a1 : Int32) (s0 : qS) : qM g l 24 0 0 (.code yX7_renderTask cX7_renderTask 4 (some .int)) yX7_renderTask [qR 0 0, qI a1] s0 (f_X7_renderTaskZ a1 s0) := by
  refine qM_of (by decide +kernel) hl (List.forall_mem_cons.mpr ⟨rfl, (List.forall_mem_cons.mpr ⟨rfl, (fun _ h => absurd h List.not_mem_nil)⟩)⟩) (Nat.le_of_ble_eq_true rfl) ?_
  intro p e s m args below meth c C hret ht
  show qV p l e _ s m args below meth c g _ _ _ _ _ 0 [some (qR 0 0), some (qI a1), none, none] [] s0
  exact (qv_aload_n C dX7_renderTask_0 rfl (qv_iload_n C dX7_renderTask_1 rfl (qv_callV C (rest := []) (cb := 0) (sb := 0) (t_X7_requireTaskZ hl a1 s0) mw_X7_requireTask lk_X7_149 in_X7_requireTask se_X7_requireTask rfl (by decide) (by decide) rfl rfl (Nat.le_of_ble_eq_true rfl) (by decide) dX7_renderTask_2 rfl (qkV (fun s1 => (qv_aload_n C dX7_renderTask_5 rfl (qv_callV C (rest := []) (cb := 0) (sb := 0) (t_X7_currentPlan hl  s1) mw_X7_currentPlan lk_X7_135 in_X7_currentPlan se_X7_currentPlan rfl (by decide) (by decide) rfl rfl (Nat.le_of_ble_eq_true rfl) (by decide) dX7_renderTask_6 rfl (qkOne (fun s2 => (qv_astore_n C dX7_renderTask_9 (by decide) rfl (qv_aload_n C dX7_renderTask_10 rfl (qv_getR C (j2 := 0) fl_X7_46 cl_X7 rfl (by decide) (by decide) (by decide) rfl rfl dX7_renderTask_11 (qv_callVN C (rest := []) (cb := 0) (sb := 0) (t_X3_clear hl  s2) mw_X3_clear lk_X7_272 in_X3_clear se_X3_clear rfl (by decide) (by decide) rfl rfl (Nat.le_of_ble_eq_true rfl) (by decide) dX7_renderTask_14 rfl (qkV (fun s3 => (qv_aload_n C dX7_renderTask_17 rfl (qv_getR C (j2 := 0) fl_X7_46 cl_X7 rfl (by decide) (by decide) (by decide) rfl rfl dX7_renderTask_18 (qv_iload_n C dX7_renderTask_21 rfl (qv_callVN C (rest := []) (cb := 0) (sb := 0) (t_X3_writeNumber hl a1 s3) mw_X3_writeNumber lk_X7_275 in_X3_writeNumber se_X3_writeNumber rfl (by decide) (by decide) rfl rfl (Nat.le_of_ble_eq_true rfl) (by decide) dX7_renderTask_22 rfl (qkV (fun s4 => (qv_aload_n C dX7_renderTask_25 rfl (qv_getR C (j2 := 0) fl_X7_46 cl_X7 rfl (by decide) (by decide) (by decide) rfl rfl dX7_renderTask_26 (qv_bipush C (v := (58 : Int32)) dX7_renderTask_29 (by decide) (qv_callVN C (rest := []) (cb := 0) (sb := 0) (t_X3_write hl (58 : Int32) s4) mw_X3_write lk_X7_278 in_X3_write se_X3_write rfl (by decide) (by decide) rfl rfl (Nat.le_of_ble_eq_true rfl) (by decide) dX7_renderTask_31 rfl (qkV (fun s5 => (qv_aload_n C dX7_renderTask_34 rfl (qv_getR C (j2 := 0) fl_X7_46 cl_X7 rfl (by decide) (by decide) (by decide) rfl rfl dX7_renderTask_35 (qv_aload_n C dX7_renderTask_38 rfl (qv_getR C (j2 := 0) fl_X7_12 cl_X7 rfl (by decide) (by decide) (by decide) rfl rfl dX7_renderTask_39 (qv_getR C (j2 := 0) fl_X7_112 cl_X5 rfl (by decide) (by decide) (by decide) rfl rfl dX7_renderTask_42 (qv_iload_n C dX7_renderTask_45 rfl (qv_callS C (rest := [qR 23 0]) (cb := 0) (sb := 0) (t_X7_at hl rfl (by decide) (by decide) a1 s5) mw_X7_at lk_X7_115 st_X7_at rfl (Nat.le_of_ble_eq_true rfl) (by decide) dX7_renderTask_46 rfl (qkI (fun r1 s6 => (qv_callVN C (rest := []) (cb := 0) (sb := 0) (t_X3_writeNumber hl r1 s6) mw_X3_writeNumber lk_X7_275 in_X3_writeNumber se_X3_writeNumber rfl (by decide) (by decide) rfl rfl (Nat.le_of_ble_eq_true rfl) (by decide) dX7_renderTask_49 rfl (qkV (fun s7 => (qv_aload_n C dX7_renderTask_52 rfl (qv_getR C (j2 := 0) fl_X7_46 cl_X7 rfl (by decide) (by decide) (by decide) rfl rfl dX7_renderTask_53 (qv_bipush C (v := (120 : Int32)) dX7_renderTask_56 (by decide) (qv_callVN C (rest := []) (cb := 0) (sb := 0) (t_X3_write hl (120 : Int32) s7) mw_X3_write lk_X7_278 in_X3_write se_X3_write rfl (by decide) (by decide) rfl rfl (Nat.le_of_ble_eq_true rfl) (by decide) dX7_renderTask_58 rfl (qkV (fun s8 => (qv_aload_n C dX7_renderTask_61 rfl (qv_getR C (j2 := 0) fl_X7_46 cl_X7 rfl (by decide) (by decide) (by decide) rfl rfl dX7_renderTask_62 (qv_aload_n C dX7_renderTask_65 rfl (qv_getR C (j2 := 0) fl_X7_12 cl_X7 rfl (by decide) (by decide) (by decide) rfl rfl dX7_renderTask_66 (qv_getR C (j2 := 0) fl_X7_155 cl_X5 rfl (by decide) (by decide) (by decide) rfl rfl dX7_renderTask_69 (qv_iload_n C dX7_renderTask_72 rfl (qv_callS C (rest := [qR 23 0]) (cb := 0) (sb := 0) (t_X7_at hl rfl (by decide) (by decide) a1 s8) mw_X7_at lk_X7_115 st_X7_at rfl (Nat.le_of_ble_eq_true rfl) (by decide) dX7_renderTask_73 rfl (qkI (fun r2 s9 => (qv_callVN C (rest := []) (cb := 0) (sb := 0) (t_X3_writeNumber hl r2 s9) mw_X3_writeNumber lk_X7_275 in_X3_writeNumber se_X3_writeNumber rfl (by decide) (by decide) rfl rfl (Nat.le_of_ble_eq_true rfl) (by decide) dX7_renderTask_76 rfl (qkV (fun s10 => (qv_aload_n C dX7_renderTask_79 rfl (qv_getR C (j2 := 0) fl_X7_46 cl_X7 rfl (by decide) (by decide) (by decide) rfl rfl dX7_renderTask_80 (qv_bipush C (v := (114 : Int32)) dX7_renderTask_83 (by decide) (qv_callVN C (rest := []) (cb := 0) (sb := 0) (t_X3_write hl (114 : Int32) s10) mw_X3_write lk_X7_278 in_X3_write se_X3_write rfl (by decide) (by decide) rfl rfl (Nat.le_of_ble_eq_true rfl) (by decide) dX7_renderTask_85 rfl (qkV (fun s11 => (qv_aload_n C dX7_renderTask_88 rfl (qv_getR C (j2 := 0) fl_X7_46 cl_X7 rfl (by decide) (by decide) (by decide) rfl rfl dX7_renderTask_89 (qv_aload_n C dX7_renderTask_92 rfl (qv_getR C (j2 := 0) fl_X7_12 cl_X7 rfl (by decide) (by decide) (by decide) rfl rfl dX7_renderTask_93 (qv_getR C (j2 := 0) fl_X7_152 cl_X5 rfl (by decide) (by decide) (by decide) rfl rfl dX7_renderTask_96 (qv_iload_n C dX7_renderTask_99 rfl (qv_callS C (rest := [qR 23 0]) (cb := 0) (sb := 0) (t_X7_at hl rfl (by decide) (by decide) a1 s11) mw_X7_at lk_X7_115 st_X7_at rfl (Nat.le_of_ble_eq_true rfl) (by decide) dX7_renderTask_100 rfl (qkI (fun r3 s12 => (qv_callVN C (rest := []) (cb := 0) (sb := 0) (t_X3_writeNumber hl r3 s12) mw_X3_writeNumber lk_X7_275 in_X3_writeNumber se_X3_writeNumber rfl (by decide) (by decide) rfl rfl (Nat.le_of_ble_eq_true rfl) (by decide) dX7_renderTask_103 rfl (qkV (fun s13 => (qv_aload_n C dX7_renderTask_106 rfl (qv_getR C (j2 := 0) fl_X7_46 cl_X7 rfl (by decide) (by decide) (by decide) rfl rfl dX7_renderTask_107 (qv_bipush C (v := (64 : Int32)) dX7_renderTask_110 (by decide) (qv_callVN C (rest := []) (cb := 0) (sb := 0) (t_X3_write hl (64 : Int32) s13) mw_X3_write lk_X7_278 in_X3_write se_X3_write rfl (by decide) (by decide) rfl rfl (Nat.le_of_ble_eq_true rfl) (by decide) dX7_renderTask_112 rfl (qkV (fun s14 => (qv_aload_n C dX7_renderTask_115 rfl (qv_getR C (j2 := 0) fl_X7_46 cl_X7 rfl (by decide) (by decide) (by decide) rfl rfl dX7_renderTask_116 (qv_aload_n C dX7_renderTask_119 rfl (qv_getR C (j2 := 0) fl_X7_139 cl_X4 rfl (by decide) (by decide) (by decide) rfl rfl dX7_renderTask_120 (qv_iload_n C dX7_renderTask_123 rfl (qv_callS C (rest := [qR 23 0]) (cb := 0) (sb := 0) (t_X7_at hl rfl (by decide) (by decide) a1 s14) mw_X7_at lk_X7_115 st_X7_at rfl (Nat.le_of_ble_eq_true rfl) (by decide) dX7_renderTask_124 rfl (qkI (fun r4 s15 => (qv_callVN C (rest := []) (cb := 0) (sb := 0) (t_X3_writeNumber hl r4 s15) mw_X3_writeNumber lk_X7_275 in_X3_writeNumber se_X3_writeNumber rfl (by decide) (by decide) rfl rfl (Nat.le_of_ble_eq_true rfl) (by decide) dX7_renderTask_127 rfl (qkV (fun s16 => (qv_aload_n C dX7_renderTask_130 rfl (qv_iload_n C dX7_renderTask_131 rfl (qv_callVN C (rest := []) (cb := 0) (sb := 0) (t_X4_slackOf hl a1 s16) mw_X4_slackOf lk_X7_202 in_X4_slackOf se_X4_slackOf rfl (by decide) (by decide) rfl rfl (Nat.le_of_ble_eq_true rfl) (by decide) dX7_renderTask_132 rfl (qkI (fun r5 s17 => (qv_if_ne C (tgt := 147) dX7_renderTask_135 (by decide) (fun _ => (qv_aload_n C dX7_renderTask_138 rfl (qv_getR C (j2 := 0) fl_X7_46 cl_X7 rfl (by decide) (by decide) (by decide) rfl rfl dX7_renderTask_139 (qv_bipush C (v := (33 : Int32)) dX7_renderTask_142 (by decide) (qv_callVN C (rest := []) (cb := 0) (sb := 0) (t_X3_write hl (33 : Int32) s17) mw_X3_write lk_X7_278 in_X3_write se_X3_write rfl (by decide) (by decide) rfl rfl (Nat.le_of_ble_eq_true rfl) (by decide) dX7_renderTask_144 rfl (qkV (fun s18 => (qv_iconst C (v := (0 : Int32)) dX7_renderTask_147 (by decide) (qv_istore_n C dX7_renderTask_148 (by decide) rfl (qV.weak [true, true, false, true] (lt_X7_renderTaskZ_149 hl C hret ht  qFU a1 (0 : Int32) s18)))))))))))
  (fun _ => (qv_iconst C (v := (0 : Int32)) dX7_renderTask_147 (by decide) (qv_istore_n C dX7_renderTask_148 (by decide) rfl (qV.weak [true, true, false, true] (lt_X7_renderTaskZ_149 hl C hret ht  qFU a1 (0 : Int32) s17)))))))))))))))))))))))))))))))))))))))))))))))))))))))))))))))))))))))))))))))))))))))))))))))))))))))
def b_X7_renderUsageZ_18 (rk18 : Int32 → Int32 → qS → Option qO) (v1 : Int32) (v3 : Int32) (s0 : qS) : Option qO :=
  (if (s0 11 0 8) ≤ v3 then (some (.inl (some (qI (s0 23 0 1))), s0)) else
  (if v3 ≤ 0 then qbind (f_X4_usedOn v1 v3 s0) (qvI (fun r1 s4 =>
  qbind (f_X3_writeNumber r1 s4) (qvV (fun s5 =>
  rk18 v1 (v3 + (1 : Int32)) s5)) qE0)) qE0 else
  qbind (f_X3_write (44 : Int32) s0) (qvV (fun s6 =>
  qbind (f_X4_usedOn v1 v3 s6) (qvI (fun r2 s7 =>
  qbind (f_X3_writeNumber r2 s7) (qvV (fun s8 =>
  rk18 v1 (v3 + (1 : Int32)) s8)) qE0)) qE0)) qE0))
def l_X7_renderUsageZ_18 : Nat → Int32 → Int32 → qS → Option qO
  | 0, _, _, _ => none
  | n + 1, v1, v3, s0 => b_X7_renderUsageZ_18  (l_X7_renderUsageZ_18  n) v1 v3 s0
set_option maxRecDepth 100000 in
set_option maxHeartbeats 4000000 in
theorem bt_X7_renderUsageZ_18 {p : Program} {l : Launch} {e : Env} {s : State} {m : MethodId} {args : Array Value} {below : List Frame} {meth : Method} {c : Code} {g : qG} (hl : l.stackTraces = false) (C : qC p l s m meth c cX7_renderUsage 4 RX7 g) (hret : meth.sig.returnType = (some .int)) (ht : ∀ x ∈ c.exceptionTable.toList, False)  (rk18 : Int32 → Int32 → qS → Option qO) (hrk18 : ∀ (v1 : Int32) (v3 : Int32) (s0 : qS), qV p l e (qrm 24 0 0) s m args below meth c g 4 (qQf g below args s (qrm 24 0 0)) (rk18 v1 v3 s0) 0 0 18 [some (qR 0 0), some (qI v1), some (qR 11 0), some (qI v3)] [] s0) (v1 : Int32) (v3 : Int32) (s0 : qS) : qV p l e (qrm 24 0 0) s m args below meth c g 4 (qQf g below args s (qrm 24 0 0)) (b_X7_renderUsageZ_18  rk18 v1 v3 s0) 0 0 18 [some (qR 0 0), some (qI v1), some (qR 11 0), some (qI v3)] [] s0 :=
  (qv_iload_n C dX7_renderUsage_18 rfl (qv_aload_n C dX7_renderUsage_19 rfl (qv_getI C fl_X7_146 cl_X4 rfl (by decide) (by decide) (by decide) rfl dX7_renderUsage_20 (qv_icmp_ge C (tgt := 58) dX7_renderUsage_23 (by decide) (fun _ => (qv_aload_n C dX7_renderUsage_58 rfl (qv_getR C (j2 := 0) fl_X7_46 cl_X7 rfl (by decide) (by decide) (by decide) rfl rfl dX7_renderUsage_59 (qv_getI C fl_X7_281 cl_X3 rfl (by decide) (by decide) (by decide) rfl dX7_renderUsage_62 (qv_iret C hret dX7_renderUsage_65)))))
  (fun _ => (qv_iload_n C dX7_renderUsage_26 rfl (qv_if_le C (tgt := 39) dX7_renderUsage_27 (by decide) (fun _ => (qv_aload_n C dX7_renderUsage_39 rfl (qv_getR C (j2 := 0) fl_X7_46 cl_X7 rfl (by decide) (by decide) (by decide) rfl rfl dX7_renderUsage_40 (qv_aload_n C dX7_renderUsage_43 rfl (qv_iload_n C dX7_renderUsage_44 rfl (qv_iload_n C dX7_renderUsage_45 rfl (qv_callVN C (rest := [qR 23 0]) (cb := 0) (sb := 0) (t_X4_usedOn hl v1 v3 s0) mw_X4_usedOn lk_X7_213 in_X4_usedOn se_X4_usedOn rfl (by decide) (by decide) rfl rfl (Nat.le_of_ble_eq_true rfl) (by decide) dX7_renderUsage_46 rfl (qkI (fun r1 s4 => (qv_callVN C (rest := []) (cb := 0) (sb := 0) (t_X3_writeNumber hl r1 s4) mw_X3_writeNumber lk_X7_275 in_X3_writeNumber se_X3_writeNumber rfl (by decide) (by decide) rfl rfl (Nat.le_of_ble_eq_true rfl) (by decide) dX7_renderUsage_49 rfl (qkV (fun s5 => (qv_iinc C (v := (v3 + (1 : Int32))) dX7_renderUsage_52 rfl rfl (by decide) rfl (qv_goto C (tgt := 18) dX7_renderUsage_55 (by decide) (qV.weak [true, true, true, true] (hrk18 v1 (v3 + (1 : Int32)) s5))))))))))))))))
  (fun _ => (qv_aload_n C dX7_renderUsage_30 rfl (qv_getR C (j2 := 0) fl_X7_46 cl_X7 rfl (by decide) (by decide) (by decide) rfl rfl dX7_renderUsage_31 (qv_bipush C (v := (44 : Int32)) dX7_renderUsage_34 (by decide) (qv_callVN C (rest := []) (cb := 0) (sb := 0) (t_X3_write hl (44 : Int32) s0) mw_X3_write lk_X7_278 in_X3_write se_X3_write rfl (by decide) (by decide) rfl rfl (Nat.le_of_ble_eq_true rfl) (by decide) dX7_renderUsage_36 rfl (qkV (fun s6 => (qv_aload_n C dX7_renderUsage_39 rfl (qv_getR C (j2 := 0) fl_X7_46 cl_X7 rfl (by decide) (by decide) (by decide) rfl rfl dX7_renderUsage_40 (qv_aload_n C dX7_renderUsage_43 rfl (qv_iload_n C dX7_renderUsage_44 rfl (qv_iload_n C dX7_renderUsage_45 rfl (qv_callVN C (rest := [qR 23 0]) (cb := 0) (sb := 0) (t_X4_usedOn hl v1 v3 s6) mw_X4_usedOn lk_X7_213 in_X4_usedOn se_X4_usedOn rfl (by decide) (by decide) rfl rfl (Nat.le_of_ble_eq_true rfl) (by decide) dX7_renderUsage_46 rfl (qkI (fun r2 s7 => (qv_callVN C (rest := []) (cb := 0) (sb := 0) (t_X3_writeNumber hl r2 s7) mw_X3_writeNumber lk_X7_275 in_X3_writeNumber se_X3_writeNumber rfl (by decide) (by decide) rfl rfl (Nat.le_of_ble_eq_true rfl) (by decide) dX7_renderUsage_49 rfl (qkV (fun s8 => (qv_iinc C (v := (v3 + (1 : Int32))) dX7_renderUsage_52 rfl rfl (by decide) rfl (qv_goto C (tgt := 18) dX7_renderUsage_55 (by decide) (qV.weak [true, true, true, true] (hrk18 v1 (v3 + (1 : Int32)) s8)))))))))))))))))))))))))))))
theorem lt_X7_renderUsageZ_18 {p : Program} {l : Launch} {e : Env} {s : State} {m : MethodId} {args : Array Value} {below : List Frame} {meth : Method} {c : Code} {g : qG} (hl : l.stackTraces = false) (C : qC p l s m meth c cX7_renderUsage 4 RX7 g) (hret : meth.sig.returnType = (some .int)) (ht : ∀ x ∈ c.exceptionTable.toList, False)  : ∀ (n : Nat) (v1 : Int32) (v3 : Int32) (s0 : qS), qV p l e (qrm 24 0 0) s m args below meth c g 4 (qQf g below args s (qrm 24 0 0)) (l_X7_renderUsageZ_18  n v1 v3 s0) 0 0 18 [some (qR 0 0), some (qI v1), some (qR 11 0), some (qI v3)] [] s0
  | 0, _, _, _ => qV.no
  | n + 1, v1, v3, s0 => bt_X7_renderUsageZ_18 hl C hret ht  _ (lt_X7_renderUsageZ_18 hl C hret ht  n) v1 v3 s0
def f_X7_renderUsageZ (a1 : Int32) (s0 : qS) : Option qO :=
  qbind (f_X7_requireResourceZ a1 s0) (qvV (fun s1 =>
  qbind (f_X7_currentPlan  s1) (qvS 11 (fun s2 =>
  qbind (f_X3_clear  s2) (qvV (fun s3 =>
  l_X7_renderUsageZ_18  qFU a1 (0 : Int32) s3)) qE0)) qE0)) qE0
set_option maxRecDepth 100000 in
set_option maxHeartbeats 4000000 in
theorem t_X7_renderUsageZ {g : qG} {l : Launch} (hl : l.stackTraces = false) (a1 : Int32) (s0 : qS) : qM g l 24 0 0 (.code yX7_renderUsage cX7_renderUsage 4 (some .int)) yX7_renderUsage [qR 0 0, qI a1] s0 (f_X7_renderUsageZ a1 s0) := by
  refine qM_of (by decide +kernel) hl (List.forall_mem_cons.mpr ⟨rfl, (List.forall_mem_cons.mpr ⟨rfl, (fun _ h => absurd h List.not_mem_nil)⟩)⟩) (Nat.le_of_ble_eq_true rfl) ?_
  intro p e s m args below meth c C hret ht
  show qV p l e _ s m args below meth c g _ _ _ _ _ 0 [some (qR 0 0), some (qI a1), none, none] [] s0
  exact (qv_iload_n C dX7_renderUsage_0 rfl (qv_callS C (rest := []) (cb := 0) (sb := 0) (t_X7_requireResourceZ hl a1 s0) mw_X7_requireResource lk_X7_158 st_X7_requireResource rfl (Nat.le_of_ble_eq_true rfl) (by decide) dX7_renderUsage_1 rfl (qkV (fun s1 => (qv_aload_n C dX7_renderUsage_4 rfl (qv_callV C (rest := []) (cb := 0) (sb := 0) (t_X7_currentPlan hl  s1) mw_X7_currentPlan lk_X7_135 in_X7_currentPlan se_X7_currentPlan rfl (by decide) (by decide) rfl rfl (Nat.le_of_ble_eq_true rfl) (by decide) dX7_renderUsage_5 rfl (qkOne (fun s2 => (qv_astore_n C dX7_renderUsage_8 (by decide) rfl (qv_aload_n C dX7_renderUsage_9 rfl (qv_getR C (j2 := 0) fl_X7_46 cl_X7 rfl (by decide) (by decide) (by decide) rfl rfl dX7_renderUsage_10 (qv_callVN C (rest := []) (cb := 0) (sb := 0) (t_X3_clear hl  s2) mw_X3_clear lk_X7_272 in_X3_clear se_X3_clear rfl (by decide) (by decide) rfl rfl (Nat.le_of_ble_eq_true rfl) (by decide) dX7_renderUsage_13 rfl (qkV (fun s3 => (qv_iconst C (v := (0 : Int32)) dX7_renderUsage_16 (by decide) (qv_istore_n C dX7_renderUsage_17 (by decide) rfl (qV.weak [true, true, true, true] (lt_X7_renderUsageZ_18 hl C hret ht  qFU a1 (0 : Int32) s3))))))))))))))))))
def f_X7_outputAtZ (a1 : Int32) (s0 : qS) : Option qO :=
  qbind (f_X7_isWithin a1 (0 : Int32) ((s0 23 0 1) - (1 : Int32)) s0) (qvI (fun r1 s1 =>
  (if r1 = 0 then none else
  qbind (f_X7_charAt 24 0 a1 s1) (qvI (fun r2 s2 =>
  (if qch r2 then some (.inl (some (qI r2)), s2) else none))) qE0))) qE0
set_option maxRecDepth 100000 in
set_option maxHeartbeats 4000000 in
theorem t_X7_outputAtZ {g : qG} {l : Launch} (hl : l.stackTraces = false) (a1 : Int32) (s0 : qS) : qM g l 2 0 0 (.code yX7_outputAt cX7_outputAt 2 (some .char)) yX7_outputAt [qR 0 0, qI a1] s0 (f_X7_outputAtZ a1 s0) := by
  refine qM_of (by decide +kernel) hl (List.forall_mem_cons.mpr ⟨rfl, (List.forall_mem_cons.mpr ⟨rfl, (fun _ h => absurd h List.not_mem_nil)⟩)⟩) (Nat.le_of_ble_eq_true rfl) ?_
  intro p e s m args below meth c C hret ht
  show qV p l e _ s m args below meth c g _ _ _ _ _ 0 [some (qR 0 0), some (qI a1)] [] s0
  exact (qv_iload_n C dX7_outputAt_0 rfl (qv_iconst C (v := (0 : Int32)) dX7_outputAt_1 (by decide) (qv_aload_n C dX7_outputAt_2 rfl (qv_getR C (j2 := 0) fl_X7_46 cl_X7 rfl (by decide) (by decide) (by decide) rfl rfl dX7_outputAt_3 (qv_getI C fl_X7_281 cl_X3 rfl (by decide) (by decide) (by decide) rfl dX7_outputAt_6 (qv_iconst C (v := (1 : Int32)) dX7_outputAt_9 (by decide) (qv_isub C dX7_outputAt_10 (qv_callS C (rest := []) (cb := 0) (sb := 0) (t_X7_isWithin hl a1 (0 : Int32) ((s0 23 0 1) - (1 : Int32)) s0) mw_X7_isWithin lk_X7_179 st_X7_isWithin rfl (Nat.le_of_ble_eq_true rfl) (by decide) dX7_outputAt_11 rfl (qkI (fun r1 s1 => (qv_if_ne C (tgt := 28) dX7_outputAt_14 (by decide) (fun _ => qV.no)
  (fun _ => (qv_aload_n C dX7_outputAt_28 rfl (qv_getR C (j2 := 0) fl_X7_46 cl_X7 rfl (by decide) (by decide) (by decide) rfl rfl dX7_outputAt_29 (qv_getR C (j2 := 0) fl_X7_289 cl_X3 rfl (by decide) (by decide) (by decide) rfl rfl dX7_outputAt_32 (qv_iload_n C dX7_outputAt_35 rfl (qv_callS C (rest := []) (cb := 0) (sb := 0) (t_X7_charAt hl rfl (by decide) (by decide) a1 s1) mw_X7_charAt lk_X7_293 st_X7_charAt rfl (Nat.le_of_ble_eq_true rfl) (by decide) dX7_outputAt_36 rfl (qkI (fun r2 s2 => (qv_cret C hret dX7_outputAt_39))))))))))))))))))))
