/-! the law: its calls (printed by wip/whole/gen) -/
def f_L_addTask (a2 : Int32) (a3 : Int32) (a4 : Int32) (a5 : Int32) (s0 : qS) : Option qO :=
  qbind (f_X7_addTask a2 a3 a4 a5 s0) (qvI (fun r1 s1 =>
  qlet (qu s1 38 0 0 r1) (fun s2 =>
  (some (.inl (some (qI (0 : Int32))), s2))))) (fun E s1 => (if E = qIAE then (some (.inl (some (qI (1 : Int32))), s1)) else
  (if E = qISE then (some (.inl (some (qI (2 : Int32))), s1)) else
  none)))
set_option maxRecDepth 100000 in
set_option maxHeartbeats 4000000 in
theorem t_L_addTask {g : qG} {l : Launch} (hl : l.stackTraces = false) (a2 : Int32) (a3 : Int32) (a4 : Int32) (a5 : Int32) (s0 : qS) : qM g l 6 1 6 (.codeWith yL_addTask cL_addTask 7 (some .int) [(0, 14, 17, 13), (0, 14, 21, 15)]) yL_addTask [qR 0 0, qI a2, qI a3, qI a4, qI a5, qR 38 0] s0 (f_L_addTask a2 a3 a4 a5 s0) := by
  refine qM_ofH (by decide +kernel) hl (List.forall_mem_cons.mpr ⟨rfl, (List.forall_mem_cons.mpr ⟨rfl, (List.forall_mem_cons.mpr ⟨rfl, (List.forall_mem_cons.mpr ⟨rfl, (List.forall_mem_cons.mpr ⟨rfl, (List.forall_mem_cons.mpr ⟨rfl, (fun _ h => absurd h List.not_mem_nil)⟩)⟩)⟩)⟩)⟩)⟩) (Nat.le_of_ble_eq_true rfl) ?_
  intro p e s m args below meth c C hret ht
  show qV p l e _ s m args below meth c g _ _ _ _ _ 0 [some (qR 0 0), some (qI a2), some (qI a3), some (qI a4), some (qI a5), some (qR 38 0), none] [] s0
  exact (qv_aload C dL_addTask_0 rfl (qv_iconst C (v := (0 : Int32)) dL_addTask_2 (by decide) (qv_aload_n C dL_addTask_3 rfl (qv_iload_n C dL_addTask_4 rfl (qv_iload_n C dL_addTask_5 rfl (qv_iload_n C dL_addTask_6 rfl (qv_iload C dL_addTask_7 rfl (qh_callV C (rest := [qI (0 : Int32), qR 38 0]) (cb := 0) (sb := 0) (t_X7_addTask hl a2 a3 a4 a5 s0) mw_X7_addTask lk_L_7 in_X7_addTask se_X7_addTask rfl (by decide) (by decide) rfl rfl (Nat.le_of_ble_eq_true rfl) (by decide) dL_addTask_9 rfl (qkI (fun r1 s1 => (qv_i2l C dL_addTask_12 (qv_last! C (x := r1) rfl (by decide) (by decide) (by decide) dL_addTask_13 (qv_let (fun s2 => (qv_goto C (tgt := 25) dL_addTask_14 (by decide) (qv_iconst C (v := (0 : Int32)) dL_addTask_25 (by decide) (qv_iret C hret dL_addTask_26))))))))) (fun E s1 => (qVX_if (qVX_catch C ht [] [(0, 14, 21, 15)] (x := (0, 14, 17, 13)) (i := 6) (n := 2) rfl (fun _ h => absurd h List.not_mem_nil) (by decide) (by decide) ckl_13 cast_IAE (Or.inl ⟨dL_addTask_17, rfl⟩) (by decide) rfl (qv_iconst C (v := (1 : Int32)) dL_addTask_19 (by decide) (qv_iret C hret dL_addTask_20))) (qVX_if (qVX_catch C ht [(0, 14, 17, 13)] [] (x := (0, 14, 21, 15)) (i := 6) (n := 2) rfl (List.forall_mem_cons.mpr ⟨⟨by decide, _, ckl_13, by decide +kernel⟩, (fun _ h => absurd h List.not_mem_nil)⟩) (by decide) (by decide) ckl_15 cast_ISE (Or.inl ⟨dL_addTask_21, rfl⟩) (by decide) rfl (qv_iconst C (v := (2 : Int32)) dL_addTask_23 (by decide) (qv_iret C hret dL_addTask_24))) qVX_no)))))))))))
def f_L_removeTask (a2 : Int32) (s0 : qS) : Option qO :=
  qbind (f_X7_removeTask a2 s0) (qvI (fun r1 s1 =>
  qlet (qu s1 38 0 0 r1) (fun s2 =>
  (some (.inl (some (qI (0 : Int32))), s2))))) (fun E s1 => (if E = qIOE then (some (.inl (some (qI (1 : Int32))), s1)) else
  none))
set_option maxRecDepth 100000 in
set_option maxHeartbeats 4000000 in
theorem t_L_removeTask {g : qG} {l : Launch} (hl : l.stackTraces = false) (a2 : Int32) (s0 : qS) : qM g l 6 1 6 (.codeWith yL_removeTask cL_removeTask 4 (some .int) [(0, 9, 12, 21)]) yL_removeTask [qR 0 0, qI a2, qR 38 0] s0 (f_L_removeTask a2 s0) := by
  refine qM_ofH (by decide +kernel) hl (List.forall_mem_cons.mpr ⟨rfl, (List.forall_mem_cons.mpr ⟨rfl, (List.forall_mem_cons.mpr ⟨rfl, (fun _ h => absurd h List.not_mem_nil)⟩)⟩)⟩) (Nat.le_of_ble_eq_true rfl) ?_
  intro p e s m args below meth c C hret ht
  show qV p l e _ s m args below meth c g _ _ _ _ _ 0 [some (qR 0 0), some (qI a2), some (qR 38 0), none] [] s0
  exact (qv_aload_n C dL_removeTask_0 rfl (qv_iconst C (v := (0 : Int32)) dL_removeTask_1 (by decide) (qv_aload_n C dL_removeTask_2 rfl (qv_iload_n C dL_removeTask_3 rfl (qh_callV C (rest := [qI (0 : Int32), qR 38 0]) (cb := 0) (sb := 0) (t_X7_removeTask hl a2 s0) mw_X7_removeTask lk_L_17 in_X7_removeTask se_X7_removeTask rfl (by decide) (by decide) rfl rfl (Nat.le_of_ble_eq_true rfl) (by decide) dL_removeTask_4 rfl (qkI (fun r1 s1 => (qv_i2l C dL_removeTask_7 (qv_last! C (x := r1) rfl (by decide) (by decide) (by decide) dL_removeTask_8 (qv_let (fun s2 => (qv_goto C (tgt := 15) dL_removeTask_9 (by decide) (qv_iconst C (v := (0 : Int32)) dL_removeTask_15 (by decide) (qv_iret C hret dL_removeTask_16))))))))) (fun E s1 => (qVX_if (qVX_catch C ht [] [] (x := (0, 9, 12, 21)) (i := 3) (n := 1) rfl (fun _ h => absurd h List.not_mem_nil) (by decide) (by decide) ckl_21 cast_IOE (Or.inr ⟨_, dL_removeTask_12, rfl, rfl⟩) (by decide) rfl (qv_iconst C (v := (1 : Int32)) dL_removeTask_13 (by decide) (qv_iret C hret dL_removeTask_14))) qVX_no)))))))
def f_L_addDependency (a2 : Int32) (a3 : Int32) (s0 : qS) : Option qO :=
  qbind (f_X7_addDependency a2 a3 s0) (qvI (fun r1 s1 =>
  (if r1 = 0 then qlet (qu s1 38 0 0 (0 : Int32)) (fun s2 =>
  (some (.inl (some (qI (0 : Int32))), s2))) else
  qlet (qu s1 38 0 0 (1 : Int32)) (fun s3 =>
  (some (.inl (some (qI (0 : Int32))), s3)))))) (fun E s1 => (if E = qIOE then (some (.inl (some (qI (1 : Int32))), s1)) else
  (if E = qIAE then (some (.inl (some (qI (2 : Int32))), s1)) else
  (if E = qUOE then (some (.inl (some (qI (3 : Int32))), s1)) else
  none))))
set_option maxRecDepth 100000 in
set_option maxHeartbeats 4000000 in
theorem t_L_addDependency {g : qG} {l : Launch} (hl : l.stackTraces = false) (a2 : Int32) (a3 : Int32) (s0 : qS) : qM g l 24 1 6 (.codeWith yL_addDependency cL_addDependency 5 (some .int) [(0, 17, 20, 21), (0, 17, 24, 13), (0, 17, 28, 27)]) yL_addDependency [qR 0 0, qI a2, qI a3, qR 38 0] s0 (f_L_addDependency a2 a3 s0) := by
  refine qM_ofH (by decide +kernel) hl (List.forall_mem_cons.mpr ⟨rfl, (List.forall_mem_cons.mpr ⟨rfl, (List.forall_mem_cons.mpr ⟨rfl, (List.forall_mem_cons.mpr ⟨rfl, (fun _ h => absurd h List.not_mem_nil)⟩)⟩)⟩)⟩) (Nat.le_of_ble_eq_true rfl) ?_
  intro p e s m args below meth c C hret ht
  show qV p l e _ s m args below meth c g _ _ _ _ _ 0 [some (qR 0 0), some (qI a2), some (qI a3), some (qR 38 0), none] [] s0
  exact (qv_aload_n C dL_addDependency_0 rfl (qv_iconst C (v := (0 : Int32)) dL_addDependency_1 (by decide) (qv_aload_n C dL_addDependency_2 rfl (qv_iload_n C dL_addDependency_3 rfl (qv_iload_n C dL_addDependency_4 rfl (qh_callV C (rest := [qI (0 : Int32), qR 38 0]) (cb := 0) (sb := 0) (t_X7_addDependency hl a2 a3 s0) mw_X7_addDependency lk_L_23 in_X7_addDependency se_X7_addDependency rfl (by decide) (by decide) rfl rfl (Nat.le_of_ble_eq_true rfl) (by decide) dL_addDependency_5 rfl (qkI (fun r1 s1 => (qv_if_eq C (tgt := 15) dL_addDependency_8 (by decide) (fun _ => (qv_lconst C (v := 0) dL_addDependency_15 (by decide) (qv_last! C (x := (0 : Int32)) rfl (by decide) (by decide) (by decide) dL_addDependency_16 (qv_let (fun s2 => (qv_goto C (tgt := 32) dL_addDependency_17 (by decide) (qv_iconst C (v := (0 : Int32)) dL_addDependency_32 (by decide) (qv_iret C hret dL_addDependency_33))))))))
  (fun _ => (qv_lconst C (v := 1) dL_addDependency_11 (by decide) (qv_goto C (tgt := 16) dL_addDependency_12 (by decide) (qv_last! C (x := (1 : Int32)) rfl (by decide) (by decide) (by decide) dL_addDependency_16 (qv_let (fun s3 => (qv_goto C (tgt := 32) dL_addDependency_17 (by decide) (qv_iconst C (v := (0 : Int32)) dL_addDependency_32 (by decide) (qv_iret C hret dL_addDependency_33)))))))))))) (fun E s1 => (qVX_if (qVX_catch C ht [] [(0, 17, 24, 13), (0, 17, 28, 27)] (x := (0, 17, 20, 21)) (i := 4) (n := 2) rfl (fun _ h => absurd h List.not_mem_nil) (by decide) (by decide) ckl_21 cast_IOE (Or.inl ⟨dL_addDependency_20, rfl⟩) (by decide) rfl (qv_iconst C (v := (1 : Int32)) dL_addDependency_22 (by decide) (qv_iret C hret dL_addDependency_23))) (qVX_if (qVX_catch C ht [(0, 17, 20, 21)] [(0, 17, 28, 27)] (x := (0, 17, 24, 13)) (i := 4) (n := 2) rfl (List.forall_mem_cons.mpr ⟨⟨by decide, _, ckl_21, by decide +kernel⟩, (fun _ h => absurd h List.not_mem_nil)⟩) (by decide) (by decide) ckl_13 cast_IAE (Or.inl ⟨dL_addDependency_24, rfl⟩) (by decide) rfl (qv_iconst C (v := (2 : Int32)) dL_addDependency_26 (by decide) (qv_iret C hret dL_addDependency_27))) (qVX_if (qVX_catch C ht [(0, 17, 20, 21), (0, 17, 24, 13)] [] (x := (0, 17, 28, 27)) (i := 4) (n := 2) rfl (List.forall_mem_cons.mpr ⟨⟨by decide, _, ckl_21, by decide +kernel⟩, (List.forall_mem_cons.mpr ⟨⟨by decide, _, ckl_13, by decide +kernel⟩, (fun _ h => absurd h List.not_mem_nil)⟩)⟩) (by decide) (by decide) ckl_27 cast_UOE (Or.inl ⟨dL_addDependency_28, rfl⟩) (by decide) rfl (qv_iconst C (v := (3 : Int32)) dL_addDependency_30 (by decide) (qv_iret C hret dL_addDependency_31))) qVX_no))))))))))
def f_L_removeDependency (a2 : Int32) (a3 : Int32) (s0 : qS) : Option qO :=
  qbind (f_X7_removeDependency a2 a3 s0) (qvI (fun r1 s1 =>
  (if r1 = 0 then qlet (qu s1 38 0 0 (0 : Int32)) (fun s2 =>
  (some (.inl (some (qI (0 : Int32))), s2))) else
  qlet (qu s1 38 0 0 (1 : Int32)) (fun s3 =>
  (some (.inl (some (qI (0 : Int32))), s3)))))) (fun E s1 => (if E = qIOE then (some (.inl (some (qI (1 : Int32))), s1)) else
  none))
set_option maxRecDepth 100000 in
set_option maxHeartbeats 4000000 in
theorem t_L_removeDependency {g : qG} {l : Launch} (hl : l.stackTraces = false) (a2 : Int32) (a3 : Int32) (s0 : qS) : qM g l 6 1 6 (.codeWith yL_removeDependency cL_removeDependency 5 (some .int) [(0, 17, 20, 21)]) yL_removeDependency [qR 0 0, qI a2, qI a3, qR 38 0] s0 (f_L_removeDependency a2 a3 s0) := by
  refine qM_ofH (by decide +kernel) hl (List.forall_mem_cons.mpr ⟨rfl, (List.forall_mem_cons.mpr ⟨rfl, (List.forall_mem_cons.mpr ⟨rfl, (List.forall_mem_cons.mpr ⟨rfl, (fun _ h => absurd h List.not_mem_nil)⟩)⟩)⟩)⟩) (Nat.le_of_ble_eq_true rfl) ?_
  intro p e s m args below meth c C hret ht
  show qV p l e _ s m args below meth c g _ _ _ _ _ 0 [some (qR 0 0), some (qI a2), some (qI a3), some (qR 38 0), none] [] s0
  exact (qv_aload_n C dL_removeDependency_0 rfl (qv_iconst C (v := (0 : Int32)) dL_removeDependency_1 (by decide) (qv_aload_n C dL_removeDependency_2 rfl (qv_iload_n C dL_removeDependency_3 rfl (qv_iload_n C dL_removeDependency_4 rfl (qh_callV C (rest := [qI (0 : Int32), qR 38 0]) (cb := 0) (sb := 0) (t_X7_removeDependency hl a2 a3 s0) mw_X7_removeDependency lk_L_29 in_X7_removeDependency se_X7_removeDependency rfl (by decide) (by decide) rfl rfl (Nat.le_of_ble_eq_true rfl) (by decide) dL_removeDependency_5 rfl (qkI (fun r1 s1 => (qv_if_eq C (tgt := 15) dL_removeDependency_8 (by decide) (fun _ => (qv_lconst C (v := 0) dL_removeDependency_15 (by decide) (qv_last! C (x := (0 : Int32)) rfl (by decide) (by decide) (by decide) dL_removeDependency_16 (qv_let (fun s2 => (qv_goto C (tgt := 24) dL_removeDependency_17 (by decide) (qv_iconst C (v := (0 : Int32)) dL_removeDependency_24 (by decide) (qv_iret C hret dL_removeDependency_25))))))))
  (fun _ => (qv_lconst C (v := 1) dL_removeDependency_11 (by decide) (qv_goto C (tgt := 16) dL_removeDependency_12 (by decide) (qv_last! C (x := (1 : Int32)) rfl (by decide) (by decide) (by decide) dL_removeDependency_16 (qv_let (fun s3 => (qv_goto C (tgt := 24) dL_removeDependency_17 (by decide) (qv_iconst C (v := (0 : Int32)) dL_removeDependency_24 (by decide) (qv_iret C hret dL_removeDependency_25)))))))))))) (fun E s1 => (qVX_if (qVX_catch C ht [] [] (x := (0, 17, 20, 21)) (i := 4) (n := 2) rfl (fun _ h => absurd h List.not_mem_nil) (by decide) (by decide) ckl_21 cast_IOE (Or.inl ⟨dL_removeDependency_20, rfl⟩) (by decide) rfl (qv_iconst C (v := (1 : Int32)) dL_removeDependency_22 (by decide) (qv_iret C hret dL_removeDependency_23))) qVX_no))))))))
def f_L_setDuration (a2 : Int32) (a3 : Int32) (s0 : qS) : Option qO :=
  qbind (f_X7_setDuration a2 a3 s0) (qvI (fun r1 s1 =>
  qlet (qu s1 38 0 0 r1) (fun s2 =>
  (some (.inl (some (qI (0 : Int32))), s2))))) (fun E s1 => (if E = qIOE then (some (.inl (some (qI (1 : Int32))), s1)) else
  (if E = qIAE then (some (.inl (some (qI (2 : Int32))), s1)) else
  none)))
set_option maxRecDepth 100000 in
set_option maxHeartbeats 4000000 in
theorem t_L_setDuration {g : qG} {l : Launch} (hl : l.stackTraces = false) (a2 : Int32) (a3 : Int32) (s0 : qS) : qM g l 6 1 6 (.codeWith yL_setDuration cL_setDuration 5 (some .int) [(0, 10, 13, 21), (0, 10, 17, 13)]) yL_setDuration [qR 0 0, qI a2, qI a3, qR 38 0] s0 (f_L_setDuration a2 a3 s0) := by
  refine qM_ofH (by decide +kernel) hl (List.forall_mem_cons.mpr ⟨rfl, (List.forall_mem_cons.mpr ⟨rfl, (List.forall_mem_cons.mpr ⟨rfl, (List.forall_mem_cons.mpr ⟨rfl, (fun _ h => absurd h List.not_mem_nil)⟩)⟩)⟩)⟩) (Nat.le_of_ble_eq_true rfl) ?_
  intro p e s m args below meth c C hret ht
  show qV p l e _ s m args below meth c g _ _ _ _ _ 0 [some (qR 0 0), some (qI a2), some (qI a3), some (qR 38 0), none] [] s0
  exact (qv_aload_n C dL_setDuration_0 rfl (qv_iconst C (v := (0 : Int32)) dL_setDuration_1 (by decide) (qv_aload_n C dL_setDuration_2 rfl (qv_iload_n C dL_setDuration_3 rfl (qv_iload_n C dL_setDuration_4 rfl (qh_callV C (rest := [qI (0 : Int32), qR 38 0]) (cb := 0) (sb := 0) (t_X7_setDuration hl a2 a3 s0) mw_X7_setDuration lk_L_32 in_X7_setDuration se_X7_setDuration rfl (by decide) (by decide) rfl rfl (Nat.le_of_ble_eq_true rfl) (by decide) dL_setDuration_5 rfl (qkI (fun r1 s1 => (qv_i2l C dL_setDuration_8 (qv_last! C (x := r1) rfl (by decide) (by decide) (by decide) dL_setDuration_9 (qv_let (fun s2 => (qv_goto C (tgt := 21) dL_setDuration_10 (by decide) (qv_iconst C (v := (0 : Int32)) dL_setDuration_21 (by decide) (qv_iret C hret dL_setDuration_22))))))))) (fun E s1 => (qVX_if (qVX_catch C ht [] [(0, 10, 17, 13)] (x := (0, 10, 13, 21)) (i := 4) (n := 2) rfl (fun _ h => absurd h List.not_mem_nil) (by decide) (by decide) ckl_21 cast_IOE (Or.inl ⟨dL_setDuration_13, rfl⟩) (by decide) rfl (qv_iconst C (v := (1 : Int32)) dL_setDuration_15 (by decide) (qv_iret C hret dL_setDuration_16))) (qVX_if (qVX_catch C ht [(0, 10, 13, 21)] [] (x := (0, 10, 17, 13)) (i := 4) (n := 2) rfl (List.forall_mem_cons.mpr ⟨⟨by decide, _, ckl_21, by decide +kernel⟩, (fun _ h => absurd h List.not_mem_nil)⟩) (by decide) (by decide) ckl_13 cast_IAE (Or.inl ⟨dL_setDuration_17, rfl⟩) (by decide) rfl (qv_iconst C (v := (2 : Int32)) dL_setDuration_19 (by decide) (qv_iret C hret dL_setDuration_20))) qVX_no)))))))))
def f_L_setRelease (a2 : Int32) (a3 : Int32) (s0 : qS) : Option qO :=
  qbind (f_X7_setRelease a2 a3 s0) (qvI (fun r1 s1 =>
  qlet (qu s1 38 0 0 r1) (fun s2 =>
  (some (.inl (some (qI (0 : Int32))), s2))))) (fun E s1 => (if E = qIOE then (some (.inl (some (qI (1 : Int32))), s1)) else
  (if E = qIAE then (some (.inl (some (qI (2 : Int32))), s1)) else
  none)))
set_option maxRecDepth 100000 in
set_option maxHeartbeats 4000000 in
theorem t_L_setRelease {g : qG} {l : Launch} (hl : l.stackTraces = false) (a2 : Int32) (a3 : Int32) (s0 : qS) : qM g l 6 1 6 (.codeWith yL_setRelease cL_setRelease 5 (some .int) [(0, 10, 13, 21), (0, 10, 17, 13)]) yL_setRelease [qR 0 0, qI a2, qI a3, qR 38 0] s0 (f_L_setRelease a2 a3 s0) := by
  refine qM_ofH (by decide +kernel) hl (List.forall_mem_cons.mpr ⟨rfl, (List.forall_mem_cons.mpr ⟨rfl, (List.forall_mem_cons.mpr ⟨rfl, (List.forall_mem_cons.mpr ⟨rfl, (fun _ h => absurd h List.not_mem_nil)⟩)⟩)⟩)⟩) (Nat.le_of_ble_eq_true rfl) ?_
  intro p e s m args below meth c C hret ht
  show qV p l e _ s m args below meth c g _ _ _ _ _ 0 [some (qR 0 0), some (qI a2), some (qI a3), some (qR 38 0), none] [] s0
  exact (qv_aload_n C dL_setRelease_0 rfl (qv_iconst C (v := (0 : Int32)) dL_setRelease_1 (by decide) (qv_aload_n C dL_setRelease_2 rfl (qv_iload_n C dL_setRelease_3 rfl (qv_iload_n C dL_setRelease_4 rfl (qh_callV C (rest := [qI (0 : Int32), qR 38 0]) (cb := 0) (sb := 0) (t_X7_setRelease hl a2 a3 s0) mw_X7_setRelease lk_L_36 in_X7_setRelease se_X7_setRelease rfl (by decide) (by decide) rfl rfl (Nat.le_of_ble_eq_true rfl) (by decide) dL_setRelease_5 rfl (qkI (fun r1 s1 => (qv_i2l C dL_setRelease_8 (qv_last! C (x := r1) rfl (by decide) (by decide) (by decide) dL_setRelease_9 (qv_let (fun s2 => (qv_goto C (tgt := 21) dL_setRelease_10 (by decide) (qv_iconst C (v := (0 : Int32)) dL_setRelease_21 (by decide) (qv_iret C hret dL_setRelease_22))))))))) (fun E s1 => (qVX_if (qVX_catch C ht [] [(0, 10, 17, 13)] (x := (0, 10, 13, 21)) (i := 4) (n := 2) rfl (fun _ h => absurd h List.not_mem_nil) (by decide) (by decide) ckl_21 cast_IOE (Or.inl ⟨dL_setRelease_13, rfl⟩) (by decide) rfl (qv_iconst C (v := (1 : Int32)) dL_setRelease_15 (by decide) (qv_iret C hret dL_setRelease_16))) (qVX_if (qVX_catch C ht [(0, 10, 13, 21)] [] (x := (0, 10, 17, 13)) (i := 4) (n := 2) rfl (List.forall_mem_cons.mpr ⟨⟨by decide, _, ckl_21, by decide +kernel⟩, (fun _ h => absurd h List.not_mem_nil)⟩) (by decide) (by decide) ckl_13 cast_IAE (Or.inl ⟨dL_setRelease_17, rfl⟩) (by decide) rfl (qv_iconst C (v := (2 : Int32)) dL_setRelease_19 (by decide) (qv_iret C hret dL_setRelease_20))) qVX_no)))))))))
def f_L_setLimit (a2 : Int32) (a3 : Int32) (s0 : qS) : Option qO :=
  qbind (f_X7_setLimit a2 a3 s0) (qvI (fun r1 s1 =>
  qlet (qu s1 38 0 0 r1) (fun s2 =>
  (some (.inl (some (qI (0 : Int32))), s2))))) (fun E s1 => (if E = qIAE then (some (.inl (some (qI (1 : Int32))), s1)) else
  none))
set_option maxRecDepth 100000 in
set_option maxHeartbeats 4000000 in
theorem t_L_setLimit {g : qG} {l : Launch} (hl : l.stackTraces = false) (a2 : Int32) (a3 : Int32) (s0 : qS) : qM g l 6 1 6 (.codeWith yL_setLimit cL_setLimit 5 (some .int) [(0, 10, 13, 13)]) yL_setLimit [qR 0 0, qI a2, qI a3, qR 38 0] s0 (f_L_setLimit a2 a3 s0) := by
  refine qM_ofH (by decide +kernel) hl (List.forall_mem_cons.mpr ⟨rfl, (List.forall_mem_cons.mpr ⟨rfl, (List.forall_mem_cons.mpr ⟨rfl, (List.forall_mem_cons.mpr ⟨rfl, (fun _ h => absurd h List.not_mem_nil)⟩)⟩)⟩)⟩) (Nat.le_of_ble_eq_true rfl) ?_
  intro p e s m args below meth c C hret ht
  show qV p l e _ s m args below meth c g _ _ _ _ _ 0 [some (qR 0 0), some (qI a2), some (qI a3), some (qR 38 0), none] [] s0
  exact (qv_aload_n C dL_setLimit_0 rfl (qv_iconst C (v := (0 : Int32)) dL_setLimit_1 (by decide) (qv_aload_n C dL_setLimit_2 rfl (qv_iload_n C dL_setLimit_3 rfl (qv_iload_n C dL_setLimit_4 rfl (qh_callV C (rest := [qI (0 : Int32), qR 38 0]) (cb := 0) (sb := 0) (t_X7_setLimit hl a2 a3 s0) mw_X7_setLimit lk_L_39 in_X7_setLimit se_X7_setLimit rfl (by decide) (by decide) rfl rfl (Nat.le_of_ble_eq_true rfl) (by decide) dL_setLimit_5 rfl (qkI (fun r1 s1 => (qv_i2l C dL_setLimit_8 (qv_last! C (x := r1) rfl (by decide) (by decide) (by decide) dL_setLimit_9 (qv_let (fun s2 => (qv_goto C (tgt := 17) dL_setLimit_10 (by decide) (qv_iconst C (v := (0 : Int32)) dL_setLimit_17 (by decide) (qv_iret C hret dL_setLimit_18))))))))) (fun E s1 => (qVX_if (qVX_catch C ht [] [] (x := (0, 10, 13, 13)) (i := 4) (n := 2) rfl (fun _ h => absurd h List.not_mem_nil) (by decide) (by decide) ckl_13 cast_IAE (Or.inl ⟨dL_setLimit_13, rfl⟩) (by decide) rfl (qv_iconst C (v := (1 : Int32)) dL_setLimit_15 (by decide) (qv_iret C hret dL_setLimit_16))) qVX_no))))))))
def f_L_duration (a2 : Int32) (s0 : qS) : Option qO :=
  qbind (f_X7_duration a2 s0) (qvI (fun r1 s1 =>
  qlet (qu s1 38 0 0 r1) (fun s2 =>
  (some (.inl (some (qI (0 : Int32))), s2))))) (fun E s1 => (if E = qIOE then (some (.inl (some (qI (1 : Int32))), s1)) else
  none))
set_option maxRecDepth 100000 in
set_option maxHeartbeats 4000000 in
theorem t_L_duration {g : qG} {l : Launch} (hl : l.stackTraces = false) (a2 : Int32) (s0 : qS) : qM g l 5 1 6 (.codeWith yL_duration cL_duration 4 (some .int) [(0, 9, 12, 21)]) yL_duration [qR 0 0, qI a2, qR 38 0] s0 (f_L_duration a2 s0) := by
  refine qM_ofH (by decide +kernel) hl (List.forall_mem_cons.mpr ⟨rfl, (List.forall_mem_cons.mpr ⟨rfl, (List.forall_mem_cons.mpr ⟨rfl, (fun _ h => absurd h List.not_mem_nil)⟩)⟩)⟩) (Nat.le_of_ble_eq_true rfl) ?_
  intro p e s m args below meth c C hret ht
  show qV p l e _ s m args below meth c g _ _ _ _ _ 0 [some (qR 0 0), some (qI a2), some (qR 38 0), none] [] s0
  exact (qv_aload_n C dL_duration_0 rfl (qv_iconst C (v := (0 : Int32)) dL_duration_1 (by decide) (qv_aload_n C dL_duration_2 rfl (qv_iload_n C dL_duration_3 rfl (qh_callV C (rest := [qI (0 : Int32), qR 38 0]) (cb := 0) (sb := 0) (t_X7_duration hl a2 s0) mw_X7_duration lk_L_42 in_X7_duration se_X7_duration rfl (by decide) (by decide) rfl rfl (Nat.le_of_ble_eq_true rfl) (by decide) dL_duration_4 rfl (qkI (fun r1 s1 => (qv_i2l C dL_duration_7 (qv_last! C (x := r1) rfl (by decide) (by decide) (by decide) dL_duration_8 (qv_let (fun s2 => (qv_goto C (tgt := 15) dL_duration_9 (by decide) (qv_iconst C (v := (0 : Int32)) dL_duration_15 (by decide) (qv_iret C hret dL_duration_16))))))))) (fun E s1 => (qVX_if (qVX_catch C ht [] [] (x := (0, 9, 12, 21)) (i := 3) (n := 1) rfl (fun _ h => absurd h List.not_mem_nil) (by decide) (by decide) ckl_21 cast_IOE (Or.inr ⟨_, dL_duration_12, rfl, rfl⟩) (by decide) rfl (qv_iconst C (v := (1 : Int32)) dL_duration_13 (by decide) (qv_iret C hret dL_duration_14))) qVX_no)))))))
def f_L_resource (a2 : Int32) (s0 : qS) : Option qO :=
  qbind (f_X7_resource a2 s0) (qvI (fun r1 s1 =>
  qlet (qu s1 38 0 0 r1) (fun s2 =>
  (some (.inl (some (qI (0 : Int32))), s2))))) (fun E s1 => (if E = qIOE then (some (.inl (some (qI (1 : Int32))), s1)) else
  none))
set_option maxRecDepth 100000 in
set_option maxHeartbeats 4000000 in
theorem t_L_resource {g : qG} {l : Launch} (hl : l.stackTraces = false) (a2 : Int32) (s0 : qS) : qM g l 5 1 6 (.codeWith yL_resource cL_resource 4 (some .int) [(0, 9, 12, 21)]) yL_resource [qR 0 0, qI a2, qR 38 0] s0 (f_L_resource a2 s0) := by
  refine qM_ofH (by decide +kernel) hl (List.forall_mem_cons.mpr ⟨rfl, (List.forall_mem_cons.mpr ⟨rfl, (List.forall_mem_cons.mpr ⟨rfl, (fun _ h => absurd h List.not_mem_nil)⟩)⟩)⟩) (Nat.le_of_ble_eq_true rfl) ?_
  intro p e s m args below meth c C hret ht
  show qV p l e _ s m args below meth c g _ _ _ _ _ 0 [some (qR 0 0), some (qI a2), some (qR 38 0), none] [] s0
  exact (qv_aload_n C dL_resource_0 rfl (qv_iconst C (v := (0 : Int32)) dL_resource_1 (by decide) (qv_aload_n C dL_resource_2 rfl (qv_iload_n C dL_resource_3 rfl (qh_callV C (rest := [qI (0 : Int32), qR 38 0]) (cb := 0) (sb := 0) (t_X7_resource hl a2 s0) mw_X7_resource lk_L_45 in_X7_resource se_X7_resource rfl (by decide) (by decide) rfl rfl (Nat.le_of_ble_eq_true rfl) (by decide) dL_resource_4 rfl (qkI (fun r1 s1 => (qv_i2l C dL_resource_7 (qv_last! C (x := r1) rfl (by decide) (by decide) (by decide) dL_resource_8 (qv_let (fun s2 => (qv_goto C (tgt := 15) dL_resource_9 (by decide) (qv_iconst C (v := (0 : Int32)) dL_resource_15 (by decide) (qv_iret C hret dL_resource_16))))))))) (fun E s1 => (qVX_if (qVX_catch C ht [] [] (x := (0, 9, 12, 21)) (i := 3) (n := 1) rfl (fun _ h => absurd h List.not_mem_nil) (by decide) (by decide) ckl_21 cast_IOE (Or.inr ⟨_, dL_resource_12, rfl, rfl⟩) (by decide) rfl (qv_iconst C (v := (1 : Int32)) dL_resource_13 (by decide) (qv_iret C hret dL_resource_14))) qVX_no)))))))
def f_L_demand (a2 : Int32) (s0 : qS) : Option qO :=
  qbind (f_X7_demand a2 s0) (qvI (fun r1 s1 =>
  qlet (qu s1 38 0 0 r1) (fun s2 =>
  (some (.inl (some (qI (0 : Int32))), s2))))) (fun E s1 => (if E = qIOE then (some (.inl (some (qI (1 : Int32))), s1)) else
  none))
set_option maxRecDepth 100000 in
set_option maxHeartbeats 4000000 in
theorem t_L_demand {g : qG} {l : Launch} (hl : l.stackTraces = false) (a2 : Int32) (s0 : qS) : qM g l 5 1 6 (.codeWith yL_demand cL_demand 4 (some .int) [(0, 9, 12, 21)]) yL_demand [qR 0 0, qI a2, qR 38 0] s0 (f_L_demand a2 s0) := by
  refine qM_ofH (by decide +kernel) hl (List.forall_mem_cons.mpr ⟨rfl, (List.forall_mem_cons.mpr ⟨rfl, (List.forall_mem_cons.mpr ⟨rfl, (fun _ h => absurd h List.not_mem_nil)⟩)⟩)⟩) (Nat.le_of_ble_eq_true rfl) ?_
  intro p e s m args below meth c C hret ht
  show qV p l e _ s m args below meth c g _ _ _ _ _ 0 [some (qR 0 0), some (qI a2), some (qR 38 0), none] [] s0
  exact (qv_aload_n C dL_demand_0 rfl (qv_iconst C (v := (0 : Int32)) dL_demand_1 (by decide) (qv_aload_n C dL_demand_2 rfl (qv_iload_n C dL_demand_3 rfl (qh_callV C (rest := [qI (0 : Int32), qR 38 0]) (cb := 0) (sb := 0) (t_X7_demand hl a2 s0) mw_X7_demand lk_L_48 in_X7_demand se_X7_demand rfl (by decide) (by decide) rfl rfl (Nat.le_of_ble_eq_true rfl) (by decide) dL_demand_4 rfl (qkI (fun r1 s1 => (qv_i2l C dL_demand_7 (qv_last! C (x := r1) rfl (by decide) (by decide) (by decide) dL_demand_8 (qv_let (fun s2 => (qv_goto C (tgt := 15) dL_demand_9 (by decide) (qv_iconst C (v := (0 : Int32)) dL_demand_15 (by decide) (qv_iret C hret dL_demand_16))))))))) (fun E s1 => (qVX_if (qVX_catch C ht [] [] (x := (0, 9, 12, 21)) (i := 3) (n := 1) rfl (fun _ h => absurd h List.not_mem_nil) (by decide) (by decide) ckl_21 cast_IOE (Or.inr ⟨_, dL_demand_12, rfl, rfl⟩) (by decide) rfl (qv_iconst C (v := (1 : Int32)) dL_demand_13 (by decide) (qv_iret C hret dL_demand_14))) qVX_no)))))))
def f_L_release (a2 : Int32) (s0 : qS) : Option qO :=
  qbind (f_X7_release a2 s0) (qvI (fun r1 s1 =>
  qlet (qu s1 38 0 0 r1) (fun s2 =>
  (some (.inl (some (qI (0 : Int32))), s2))))) (fun E s1 => (if E = qIOE then (some (.inl (some (qI (1 : Int32))), s1)) else
  none))
set_option maxRecDepth 100000 in
set_option maxHeartbeats 4000000 in
theorem t_L_release {g : qG} {l : Launch} (hl : l.stackTraces = false) (a2 : Int32) (s0 : qS) : qM g l 5 1 6 (.codeWith yL_release cL_release 4 (some .int) [(0, 9, 12, 21)]) yL_release [qR 0 0, qI a2, qR 38 0] s0 (f_L_release a2 s0) := by
  refine qM_ofH (by decide +kernel) hl (List.forall_mem_cons.mpr ⟨rfl, (List.forall_mem_cons.mpr ⟨rfl, (List.forall_mem_cons.mpr ⟨rfl, (fun _ h => absurd h List.not_mem_nil)⟩)⟩)⟩) (Nat.le_of_ble_eq_true rfl) ?_
  intro p e s m args below meth c C hret ht
  show qV p l e _ s m args below meth c g _ _ _ _ _ 0 [some (qR 0 0), some (qI a2), some (qR 38 0), none] [] s0
  exact (qv_aload_n C dL_release_0 rfl (qv_iconst C (v := (0 : Int32)) dL_release_1 (by decide) (qv_aload_n C dL_release_2 rfl (qv_iload_n C dL_release_3 rfl (qh_callV C (rest := [qI (0 : Int32), qR 38 0]) (cb := 0) (sb := 0) (t_X7_release hl a2 s0) mw_X7_release lk_L_51 in_X7_release se_X7_release rfl (by decide) (by decide) rfl rfl (Nat.le_of_ble_eq_true rfl) (by decide) dL_release_4 rfl (qkI (fun r1 s1 => (qv_i2l C dL_release_7 (qv_last! C (x := r1) rfl (by decide) (by decide) (by decide) dL_release_8 (qv_let (fun s2 => (qv_goto C (tgt := 15) dL_release_9 (by decide) (qv_iconst C (v := (0 : Int32)) dL_release_15 (by decide) (qv_iret C hret dL_release_16))))))))) (fun E s1 => (qVX_if (qVX_catch C ht [] [] (x := (0, 9, 12, 21)) (i := 3) (n := 1) rfl (fun _ h => absurd h List.not_mem_nil) (by decide) (by decide) ckl_21 cast_IOE (Or.inr ⟨_, dL_release_12, rfl, rfl⟩) (by decide) rfl (qv_iconst C (v := (1 : Int32)) dL_release_13 (by decide) (qv_iret C hret dL_release_14))) qVX_no)))))))
def f_L_limit (a2 : Int32) (s0 : qS) : Option qO :=
  qbind (f_X7_limit a2 s0) (qvI (fun r1 s1 =>
  qlet (qu s1 38 0 0 r1) (fun s2 =>
  (some (.inl (some (qI (0 : Int32))), s2))))) (fun E s1 => (if E = qIAE then (some (.inl (some (qI (1 : Int32))), s1)) else
  none))
set_option maxRecDepth 100000 in
set_option maxHeartbeats 4000000 in
theorem t_L_limit {g : qG} {l : Launch} (hl : l.stackTraces = false) (a2 : Int32) (s0 : qS) : qM g l 4 1 6 (.codeWith yL_limit cL_limit 4 (some .int) [(0, 9, 12, 13)]) yL_limit [qR 0 0, qI a2, qR 38 0] s0 (f_L_limit a2 s0) := by
  refine qM_ofH (by decide +kernel) hl (List.forall_mem_cons.mpr ⟨rfl, (List.forall_mem_cons.mpr ⟨rfl, (List.forall_mem_cons.mpr ⟨rfl, (fun _ h => absurd h List.not_mem_nil)⟩)⟩)⟩) (Nat.le_of_ble_eq_true rfl) ?_
  intro p e s m args below meth c C hret ht
  show qV p l e _ s m args below meth c g _ _ _ _ _ 0 [some (qR 0 0), some (qI a2), some (qR 38 0), none] [] s0
  exact (qv_aload_n C dL_limit_0 rfl (qv_iconst C (v := (0 : Int32)) dL_limit_1 (by decide) (qv_aload_n C dL_limit_2 rfl (qv_iload_n C dL_limit_3 rfl (qh_callV C (rest := [qI (0 : Int32), qR 38 0]) (cb := 0) (sb := 0) (t_X7_limit hl a2 s0) mw_X7_limit lk_L_54 in_X7_limit se_X7_limit rfl (by decide) (by decide) rfl rfl (Nat.le_of_ble_eq_true rfl) (by decide) dL_limit_4 rfl (qkI (fun r1 s1 => (qv_i2l C dL_limit_7 (qv_last! C (x := r1) rfl (by decide) (by decide) (by decide) dL_limit_8 (qv_let (fun s2 => (qv_goto C (tgt := 15) dL_limit_9 (by decide) (qv_iconst C (v := (0 : Int32)) dL_limit_15 (by decide) (qv_iret C hret dL_limit_16))))))))) (fun E s1 => (qVX_if (qVX_catch C ht [] [] (x := (0, 9, 12, 13)) (i := 3) (n := 1) rfl (fun _ h => absurd h List.not_mem_nil) (by decide) (by decide) ckl_13 cast_IAE (Or.inr ⟨_, dL_limit_12, rfl, rfl⟩) (by decide) rfl (qv_iconst C (v := (1 : Int32)) dL_limit_13 (by decide) (qv_iret C hret dL_limit_14))) qVX_no)))))))
def f_L_dependsDirectly (a2 : Int32) (a3 : Int32) (s0 : qS) : Option qO :=
  qbind (f_X7_dependsDirectly a2 a3 s0) (qvI (fun r1 s1 =>
  (if r1 = 0 then qlet (qu s1 38 0 0 (0 : Int32)) (fun s2 =>
  (some (.inl (some (qI (0 : Int32))), s2))) else
  qlet (qu s1 38 0 0 (1 : Int32)) (fun s3 =>
  (some (.inl (some (qI (0 : Int32))), s3)))))) (fun E s1 => (if E = qIOE then (some (.inl (some (qI (1 : Int32))), s1)) else
  none))
set_option maxRecDepth 100000 in
set_option maxHeartbeats 4000000 in
theorem t_L_dependsDirectly {g : qG} {l : Launch} (hl : l.stackTraces = false) (a2 : Int32) (a3 : Int32) (s0 : qS) : qM g l 5 2 12 (.codeWith yL_dependsDirectly cL_dependsDirectly 5 (some .int) [(0, 17, 20, 21)]) yL_dependsDirectly [qR 0 0, qI a2, qI a3, qR 38 0] s0 (f_L_dependsDirectly a2 a3 s0) := by
  refine qM_ofH (by decide +kernel) hl (List.forall_mem_cons.mpr ⟨rfl, (List.forall_mem_cons.mpr ⟨rfl, (List.forall_mem_cons.mpr ⟨rfl, (List.forall_mem_cons.mpr ⟨rfl, (fun _ h => absurd h List.not_mem_nil)⟩)⟩)⟩)⟩) (Nat.le_of_ble_eq_true rfl) ?_
  intro p e s m args below meth c C hret ht
  show qV p l e _ s m args below meth c g _ _ _ _ _ 0 [some (qR 0 0), some (qI a2), some (qI a3), some (qR 38 0), none] [] s0
  exact (qv_aload_n C dL_dependsDirectly_0 rfl (qv_iconst C (v := (0 : Int32)) dL_dependsDirectly_1 (by decide) (qv_aload_n C dL_dependsDirectly_2 rfl (qv_iload_n C dL_dependsDirectly_3 rfl (qv_iload_n C dL_dependsDirectly_4 rfl (qh_callV C (rest := [qI (0 : Int32), qR 38 0]) (cb := 0) (sb := 0) (t_X7_dependsDirectly hl a2 a3 s0) mw_X7_dependsDirectly lk_L_57 in_X7_dependsDirectly se_X7_dependsDirectly rfl (by decide) (by decide) rfl rfl (Nat.le_of_ble_eq_true rfl) (by decide) dL_dependsDirectly_5 rfl (qkI (fun r1 s1 => (qv_if_eq C (tgt := 15) dL_dependsDirectly_8 (by decide) (fun _ => (qv_lconst C (v := 0) dL_dependsDirectly_15 (by decide) (qv_last! C (x := (0 : Int32)) rfl (by decide) (by decide) (by decide) dL_dependsDirectly_16 (qv_let (fun s2 => (qv_goto C (tgt := 24) dL_dependsDirectly_17 (by decide) (qv_iconst C (v := (0 : Int32)) dL_dependsDirectly_24 (by decide) (qv_iret C hret dL_dependsDirectly_25))))))))
  (fun _ => (qv_lconst C (v := 1) dL_dependsDirectly_11 (by decide) (qv_goto C (tgt := 16) dL_dependsDirectly_12 (by decide) (qv_last! C (x := (1 : Int32)) rfl (by decide) (by decide) (by decide) dL_dependsDirectly_16 (qv_let (fun s3 => (qv_goto C (tgt := 24) dL_dependsDirectly_17 (by decide) (qv_iconst C (v := (0 : Int32)) dL_dependsDirectly_24 (by decide) (qv_iret C hret dL_dependsDirectly_25)))))))))))) (fun E s1 => (qVX_if (qVX_catch C ht [] [] (x := (0, 17, 20, 21)) (i := 4) (n := 2) rfl (fun _ h => absurd h List.not_mem_nil) (by decide) (by decide) ckl_21 cast_IOE (Or.inl ⟨dL_dependsDirectly_20, rfl⟩) (by decide) rfl (qv_iconst C (v := (1 : Int32)) dL_dependsDirectly_22 (by decide) (qv_iret C hret dL_dependsDirectly_23))) qVX_no))))))))
def f_L_depends (a2 : Int32) (a3 : Int32) (s0 : qS) : Option qO :=
  qbind (f_X7_depends a2 a3 s0) (qvI (fun r1 s1 =>
  (if r1 = 0 then qlet (qu s1 38 0 0 (0 : Int32)) (fun s2 =>
  (some (.inl (some (qI (0 : Int32))), s2))) else
  qlet (qu s1 38 0 0 (1 : Int32)) (fun s3 =>
  (some (.inl (some (qI (0 : Int32))), s3)))))) (fun E s1 => (if E = qIOE then (some (.inl (some (qI (1 : Int32))), s1)) else
  none))
set_option maxRecDepth 100000 in
set_option maxHeartbeats 4000000 in
theorem t_L_depends {g : qG} {l : Launch} (hl : l.stackTraces = false) (a2 : Int32) (a3 : Int32) (s0 : qS) : qM g l 23 2 12 (.codeWith yL_depends cL_depends 5 (some .int) [(0, 17, 20, 21)]) yL_depends [qR 0 0, qI a2, qI a3, qR 38 0] s0 (f_L_depends a2 a3 s0) := by
  refine qM_ofH (by decide +kernel) hl (List.forall_mem_cons.mpr ⟨rfl, (List.forall_mem_cons.mpr ⟨rfl, (List.forall_mem_cons.mpr ⟨rfl, (List.forall_mem_cons.mpr ⟨rfl, (fun _ h => absurd h List.not_mem_nil)⟩)⟩)⟩)⟩) (Nat.le_of_ble_eq_true rfl) ?_
  intro p e s m args below meth c C hret ht
  show qV p l e _ s m args below meth c g _ _ _ _ _ 0 [some (qR 0 0), some (qI a2), some (qI a3), some (qR 38 0), none] [] s0
  exact (qv_aload_n C dL_depends_0 rfl (qv_iconst C (v := (0 : Int32)) dL_depends_1 (by decide) (qv_aload_n C dL_depends_2 rfl (qv_iload_n C dL_depends_3 rfl (qv_iload_n C dL_depends_4 rfl (qh_callV C (rest := [qI (0 : Int32), qR 38 0]) (cb := 0) (sb := 0) (t_X7_depends hl a2 a3 s0) mw_X7_depends lk_L_60 in_X7_depends se_X7_depends rfl (by decide) (by decide) rfl rfl (Nat.le_of_ble_eq_true rfl) (by decide) dL_depends_5 rfl (qkI (fun r1 s1 => (qv_if_eq C (tgt := 15) dL_depends_8 (by decide) (fun _ => (qv_lconst C (v := 0) dL_depends_15 (by decide) (qv_last! C (x := (0 : Int32)) rfl (by decide) (by decide) (by decide) dL_depends_16 (qv_let (fun s2 => (qv_goto C (tgt := 24) dL_depends_17 (by decide) (qv_iconst C (v := (0 : Int32)) dL_depends_24 (by decide) (qv_iret C hret dL_depends_25))))))))
  (fun _ => (qv_lconst C (v := 1) dL_depends_11 (by decide) (qv_goto C (tgt := 16) dL_depends_12 (by decide) (qv_last! C (x := (1 : Int32)) rfl (by decide) (by decide) (by decide) dL_depends_16 (qv_let (fun s3 => (qv_goto C (tgt := 24) dL_depends_17 (by decide) (qv_iconst C (v := (0 : Int32)) dL_depends_24 (by decide) (qv_iret C hret dL_depends_25)))))))))))) (fun E s1 => (qVX_if (qVX_catch C ht [] [] (x := (0, 17, 20, 21)) (i := 4) (n := 2) rfl (fun _ h => absurd h List.not_mem_nil) (by decide) (by decide) ckl_21 cast_IOE (Or.inl ⟨dL_depends_20, rfl⟩) (by decide) rfl (qv_iconst C (v := (1 : Int32)) dL_depends_22 (by decide) (qv_iret C hret dL_depends_23))) qVX_no))))))))
def f_L_dependsByClosure (a2 : Int32) (a3 : Int32) (s0 : qS) : Option qO :=
  qbind (f_X7_dependsByClosure a2 a3 s0) (qvI (fun r1 s1 =>
  (if r1 = 0 then qlet (qu s1 38 0 0 (0 : Int32)) (fun s2 =>
  (some (.inl (some (qI (0 : Int32))), s2))) else
  qlet (qu s1 38 0 0 (1 : Int32)) (fun s3 =>
  (some (.inl (some (qI (0 : Int32))), s3)))))) (fun E s1 => (if E = qIOE then (some (.inl (some (qI (1 : Int32))), s1)) else
  none))
set_option maxRecDepth 100000 in
set_option maxHeartbeats 4000000 in
theorem t_L_dependsByClosure {g : qG} {l : Launch} (hl : l.stackTraces = false) (a2 : Int32) (a3 : Int32) (s0 : qS) : qM g l 25 2 12 (.codeWith yL_dependsByClosure cL_dependsByClosure 5 (some .int) [(0, 17, 20, 21)]) yL_dependsByClosure [qR 0 0, qI a2, qI a3, qR 38 0] s0 (f_L_dependsByClosure a2 a3 s0) := by
  refine qM_ofH (by decide +kernel) hl (List.forall_mem_cons.mpr ⟨rfl, (List.forall_mem_cons.mpr ⟨rfl, (List.forall_mem_cons.mpr ⟨rfl, (List.forall_mem_cons.mpr ⟨rfl, (fun _ h => absurd h List.not_mem_nil)⟩)⟩)⟩)⟩) (Nat.le_of_ble_eq_true rfl) ?_
  intro p e s m args below meth c C hret ht
  show qV p l e _ s m args below meth c g _ _ _ _ _ 0 [some (qR 0 0), some (qI a2), some (qI a3), some (qR 38 0), none] [] s0
  exact (qv_aload_n C dL_dependsByClosure_0 rfl (qv_iconst C (v := (0 : Int32)) dL_dependsByClosure_1 (by decide) (qv_aload_n C dL_dependsByClosure_2 rfl (qv_iload_n C dL_dependsByClosure_3 rfl (qv_iload_n C dL_dependsByClosure_4 rfl (qh_callV C (rest := [qI (0 : Int32), qR 38 0]) (cb := 0) (sb := 0) (t_X7_dependsByClosure hl a2 a3 s0) mw_X7_dependsByClosure lk_L_63 in_X7_dependsByClosure se_X7_dependsByClosure rfl (by decide) (by decide) rfl rfl (Nat.le_of_ble_eq_true rfl) (by decide) dL_dependsByClosure_5 rfl (qkI (fun r1 s1 => (qv_if_eq C (tgt := 15) dL_dependsByClosure_8 (by decide) (fun _ => (qv_lconst C (v := 0) dL_dependsByClosure_15 (by decide) (qv_last! C (x := (0 : Int32)) rfl (by decide) (by decide) (by decide) dL_dependsByClosure_16 (qv_let (fun s2 => (qv_goto C (tgt := 24) dL_dependsByClosure_17 (by decide) (qv_iconst C (v := (0 : Int32)) dL_dependsByClosure_24 (by decide) (qv_iret C hret dL_dependsByClosure_25))))))))
  (fun _ => (qv_lconst C (v := 1) dL_dependsByClosure_11 (by decide) (qv_goto C (tgt := 16) dL_dependsByClosure_12 (by decide) (qv_last! C (x := (1 : Int32)) rfl (by decide) (by decide) (by decide) dL_dependsByClosure_16 (qv_let (fun s3 => (qv_goto C (tgt := 24) dL_dependsByClosure_17 (by decide) (qv_iconst C (v := (0 : Int32)) dL_dependsByClosure_24 (by decide) (qv_iret C hret dL_dependsByClosure_25)))))))))))) (fun E s1 => (qVX_if (qVX_catch C ht [] [] (x := (0, 17, 20, 21)) (i := 4) (n := 2) rfl (fun _ h => absurd h List.not_mem_nil) (by decide) (by decide) ckl_21 cast_IOE (Or.inl ⟨dL_dependsByClosure_20, rfl⟩) (by decide) rfl (qv_iconst C (v := (1 : Int32)) dL_dependsByClosure_22 (by decide) (qv_iret C hret dL_dependsByClosure_23))) qVX_no))))))))
def f_L_neededCount (a2 : Int32) (s0 : qS) : Option qO :=
  qbind (f_X7_neededCount a2 s0) (qvI (fun r1 s1 =>
  qlet (qu s1 38 0 0 r1) (fun s2 =>
  (some (.inl (some (qI (0 : Int32))), s2))))) (fun E s1 => (if E = qIOE then (some (.inl (some (qI (1 : Int32))), s1)) else
  none))
set_option maxRecDepth 100000 in
set_option maxHeartbeats 4000000 in
theorem t_L_neededCount {g : qG} {l : Launch} (hl : l.stackTraces = false) (a2 : Int32) (s0 : qS) : qM g l 5 1 6 (.codeWith yL_neededCount cL_neededCount 4 (some .int) [(0, 9, 12, 21)]) yL_neededCount [qR 0 0, qI a2, qR 38 0] s0 (f_L_neededCount a2 s0) := by
  refine qM_ofH (by decide +kernel) hl (List.forall_mem_cons.mpr ⟨rfl, (List.forall_mem_cons.mpr ⟨rfl, (List.forall_mem_cons.mpr ⟨rfl, (fun _ h => absurd h List.not_mem_nil)⟩)⟩)⟩) (Nat.le_of_ble_eq_true rfl) ?_
  intro p e s m args below meth c C hret ht
  show qV p l e _ s m args below meth c g _ _ _ _ _ 0 [some (qR 0 0), some (qI a2), some (qR 38 0), none] [] s0
  exact (qv_aload_n C dL_neededCount_0 rfl (qv_iconst C (v := (0 : Int32)) dL_neededCount_1 (by decide) (qv_aload_n C dL_neededCount_2 rfl (qv_iload_n C dL_neededCount_3 rfl (qh_callV C (rest := [qI (0 : Int32), qR 38 0]) (cb := 0) (sb := 0) (t_X7_neededCount hl a2 s0) mw_X7_neededCount lk_L_66 in_X7_neededCount se_X7_neededCount rfl (by decide) (by decide) rfl rfl (Nat.le_of_ble_eq_true rfl) (by decide) dL_neededCount_4 rfl (qkI (fun r1 s1 => (qv_i2l C dL_neededCount_7 (qv_last! C (x := r1) rfl (by decide) (by decide) (by decide) dL_neededCount_8 (qv_let (fun s2 => (qv_goto C (tgt := 15) dL_neededCount_9 (by decide) (qv_iconst C (v := (0 : Int32)) dL_neededCount_15 (by decide) (qv_iret C hret dL_neededCount_16))))))))) (fun E s1 => (qVX_if (qVX_catch C ht [] [] (x := (0, 9, 12, 21)) (i := 3) (n := 1) rfl (fun _ h => absurd h List.not_mem_nil) (by decide) (by decide) ckl_21 cast_IOE (Or.inr ⟨_, dL_neededCount_12, rfl, rfl⟩) (by decide) rfl (qv_iconst C (v := (1 : Int32)) dL_neededCount_13 (by decide) (qv_iret C hret dL_neededCount_14))) qVX_no)))))))
def f_L_dependentCount (a2 : Int32) (s0 : qS) : Option qO :=
  qbind (f_X7_dependentCount a2 s0) (qvI (fun r1 s1 =>
  qlet (qu s1 38 0 0 r1) (fun s2 =>
  (some (.inl (some (qI (0 : Int32))), s2))))) (fun E s1 => (if E = qIOE then (some (.inl (some (qI (1 : Int32))), s1)) else
  none))
set_option maxRecDepth 100000 in
set_option maxHeartbeats 4000000 in
theorem t_L_dependentCount {g : qG} {l : Launch} (hl : l.stackTraces = false) (a2 : Int32) (s0 : qS) : qM g l 5 1 6 (.codeWith yL_dependentCount cL_dependentCount 4 (some .int) [(0, 9, 12, 21)]) yL_dependentCount [qR 0 0, qI a2, qR 38 0] s0 (f_L_dependentCount a2 s0) := by
  refine qM_ofH (by decide +kernel) hl (List.forall_mem_cons.mpr ⟨rfl, (List.forall_mem_cons.mpr ⟨rfl, (List.forall_mem_cons.mpr ⟨rfl, (fun _ h => absurd h List.not_mem_nil)⟩)⟩)⟩) (Nat.le_of_ble_eq_true rfl) ?_
  intro p e s m args below meth c C hret ht
  show qV p l e _ s m args below meth c g _ _ _ _ _ 0 [some (qR 0 0), some (qI a2), some (qR 38 0), none] [] s0
  exact (qv_aload_n C dL_dependentCount_0 rfl (qv_iconst C (v := (0 : Int32)) dL_dependentCount_1 (by decide) (qv_aload_n C dL_dependentCount_2 rfl (qv_iload_n C dL_dependentCount_3 rfl (qh_callV C (rest := [qI (0 : Int32), qR 38 0]) (cb := 0) (sb := 0) (t_X7_dependentCount hl a2 s0) mw_X7_dependentCount lk_L_69 in_X7_dependentCount se_X7_dependentCount rfl (by decide) (by decide) rfl rfl (Nat.le_of_ble_eq_true rfl) (by decide) dL_dependentCount_4 rfl (qkI (fun r1 s1 => (qv_i2l C dL_dependentCount_7 (qv_last! C (x := r1) rfl (by decide) (by decide) (by decide) dL_dependentCount_8 (qv_let (fun s2 => (qv_goto C (tgt := 15) dL_dependentCount_9 (by decide) (qv_iconst C (v := (0 : Int32)) dL_dependentCount_15 (by decide) (qv_iret C hret dL_dependentCount_16))))))))) (fun E s1 => (qVX_if (qVX_catch C ht [] [] (x := (0, 9, 12, 21)) (i := 3) (n := 1) rfl (fun _ h => absurd h List.not_mem_nil) (by decide) (by decide) ckl_21 cast_IOE (Or.inr ⟨_, dL_dependentCount_12, rfl, rfl⟩) (by decide) rfl (qv_iconst C (v := (1 : Int32)) dL_dependentCount_13 (by decide) (qv_iret C hret dL_dependentCount_14))) qVX_no)))))))
def f_L_taskInOrder (a2 : Int32) (s0 : qS) : Option qO :=
  qbind (f_X7_taskInOrder a2 s0) (qvI (fun r1 s1 =>
  qlet (qu s1 38 0 0 r1) (fun s2 =>
  (some (.inl (some (qI (0 : Int32))), s2))))) (fun E s1 => (if E = qNSE then (some (.inl (some (qI (1 : Int32))), s1)) else
  none))
set_option maxRecDepth 100000 in
set_option maxHeartbeats 4000000 in
theorem t_L_taskInOrder {g : qG} {l : Launch} (hl : l.stackTraces = false) (a2 : Int32) (s0 : qS) : qM g l 25 1 6 (.codeWith yL_taskInOrder cL_taskInOrder 4 (some .int) [(0, 9, 12, 75)]) yL_taskInOrder [qR 0 0, qI a2, qR 38 0] s0 (f_L_taskInOrder a2 s0) := by
  refine qM_ofH (by decide +kernel) hl (List.forall_mem_cons.mpr ⟨rfl, (List.forall_mem_cons.mpr ⟨rfl, (List.forall_mem_cons.mpr ⟨rfl, (fun _ h => absurd h List.not_mem_nil)⟩)⟩)⟩) (Nat.le_of_ble_eq_true rfl) ?_
  intro p e s m args below meth c C hret ht
  show qV p l e _ s m args below meth c g _ _ _ _ _ 0 [some (qR 0 0), some (qI a2), some (qR 38 0), none] [] s0
  exact (qv_aload_n C dL_taskInOrder_0 rfl (qv_iconst C (v := (0 : Int32)) dL_taskInOrder_1 (by decide) (qv_aload_n C dL_taskInOrder_2 rfl (qv_iload_n C dL_taskInOrder_3 rfl (qh_callV C (rest := [qI (0 : Int32), qR 38 0]) (cb := 0) (sb := 0) (t_X7_taskInOrder hl a2 s0) mw_X7_taskInOrder lk_L_72 in_X7_taskInOrder se_X7_taskInOrder rfl (by decide) (by decide) rfl rfl (Nat.le_of_ble_eq_true rfl) (by decide) dL_taskInOrder_4 rfl (qkI (fun r1 s1 => (qv_i2l C dL_taskInOrder_7 (qv_last! C (x := r1) rfl (by decide) (by decide) (by decide) dL_taskInOrder_8 (qv_let (fun s2 => (qv_goto C (tgt := 15) dL_taskInOrder_9 (by decide) (qv_iconst C (v := (0 : Int32)) dL_taskInOrder_15 (by decide) (qv_iret C hret dL_taskInOrder_16))))))))) (fun E s1 => (qVX_if (qVX_catch C ht [] [] (x := (0, 9, 12, 75)) (i := 3) (n := 1) rfl (fun _ h => absurd h List.not_mem_nil) (by decide) (by decide) ckl_75 cast_NSE (Or.inr ⟨_, dL_taskInOrder_12, rfl, rfl⟩) (by decide) rfl (qv_iconst C (v := (1 : Int32)) dL_taskInOrder_13 (by decide) (qv_iret C hret dL_taskInOrder_14))) qVX_no)))))))
def f_L_earliestStart (a2 : Int32) (s0 : qS) : Option qO :=
  qbind (f_X7_earliestStart a2 s0) (qvI (fun r1 s1 =>
  qlet (qu s1 38 0 0 r1) (fun s2 =>
  (some (.inl (some (qI (0 : Int32))), s2))))) (fun E s1 => (if E = qIOE then (some (.inl (some (qI (1 : Int32))), s1)) else
  none))
set_option maxRecDepth 100000 in
set_option maxHeartbeats 4000000 in
theorem t_L_earliestStart {g : qG} {l : Launch} (hl : l.stackTraces = false) (a2 : Int32) (s0 : qS) : qM g l 25 1 6 (.codeWith yL_earliestStart cL_earliestStart 4 (some .int) [(0, 9, 12, 21)]) yL_earliestStart [qR 0 0, qI a2, qR 38 0] s0 (f_L_earliestStart a2 s0) := by
  refine qM_ofH (by decide +kernel) hl (List.forall_mem_cons.mpr ⟨rfl, (List.forall_mem_cons.mpr ⟨rfl, (List.forall_mem_cons.mpr ⟨rfl, (fun _ h => absurd h List.not_mem_nil)⟩)⟩)⟩) (Nat.le_of_ble_eq_true rfl) ?_
  intro p e s m args below meth c C hret ht
  show qV p l e _ s m args below meth c g _ _ _ _ _ 0 [some (qR 0 0), some (qI a2), some (qR 38 0), none] [] s0
  exact (qv_aload_n C dL_earliestStart_0 rfl (qv_iconst C (v := (0 : Int32)) dL_earliestStart_1 (by decide) (qv_aload_n C dL_earliestStart_2 rfl (qv_iload_n C dL_earliestStart_3 rfl (qh_callV C (rest := [qI (0 : Int32), qR 38 0]) (cb := 0) (sb := 0) (t_X7_earliestStart hl a2 s0) mw_X7_earliestStart lk_L_77 in_X7_earliestStart se_X7_earliestStart rfl (by decide) (by decide) rfl rfl (Nat.le_of_ble_eq_true rfl) (by decide) dL_earliestStart_4 rfl (qkI (fun r1 s1 => (qv_i2l C dL_earliestStart_7 (qv_last! C (x := r1) rfl (by decide) (by decide) (by decide) dL_earliestStart_8 (qv_let (fun s2 => (qv_goto C (tgt := 15) dL_earliestStart_9 (by decide) (qv_iconst C (v := (0 : Int32)) dL_earliestStart_15 (by decide) (qv_iret C hret dL_earliestStart_16))))))))) (fun E s1 => (qVX_if (qVX_catch C ht [] [] (x := (0, 9, 12, 21)) (i := 3) (n := 1) rfl (fun _ h => absurd h List.not_mem_nil) (by decide) (by decide) ckl_21 cast_IOE (Or.inr ⟨_, dL_earliestStart_12, rfl, rfl⟩) (by decide) rfl (qv_iconst C (v := (1 : Int32)) dL_earliestStart_13 (by decide) (qv_iret C hret dL_earliestStart_14))) qVX_no)))))))
def f_L_earliestStartByRounds (a2 : Int32) (s0 : qS) : Option qO :=
  qbind (f_X7_earliestStartByRounds a2 s0) (qvI (fun r1 s1 =>
  qlet (qu s1 38 0 0 r1) (fun s2 =>
  (some (.inl (some (qI (0 : Int32))), s2))))) (fun E s1 => (if E = qIOE then (some (.inl (some (qI (1 : Int32))), s1)) else
  none))
set_option maxRecDepth 100000 in
set_option maxHeartbeats 4000000 in
theorem t_L_earliestStartByRounds {g : qG} {l : Launch} (hl : l.stackTraces = false) (a2 : Int32) (s0 : qS) : qM g l 25 1 6 (.codeWith yL_earliestStartByRounds cL_earliestStartByRounds 4 (some .int) [(0, 9, 12, 21)]) yL_earliestStartByRounds [qR 0 0, qI a2, qR 38 0] s0 (f_L_earliestStartByRounds a2 s0) := by
  refine qM_ofH (by decide +kernel) hl (List.forall_mem_cons.mpr ⟨rfl, (List.forall_mem_cons.mpr ⟨rfl, (List.forall_mem_cons.mpr ⟨rfl, (fun _ h => absurd h List.not_mem_nil)⟩)⟩)⟩) (Nat.le_of_ble_eq_true rfl) ?_
  intro p e s m args below meth c C hret ht
  show qV p l e _ s m args below meth c g _ _ _ _ _ 0 [some (qR 0 0), some (qI a2), some (qR 38 0), none] [] s0
  exact (qv_aload_n C dL_earliestStartByRounds_0 rfl (qv_iconst C (v := (0 : Int32)) dL_earliestStartByRounds_1 (by decide) (qv_aload_n C dL_earliestStartByRounds_2 rfl (qv_iload_n C dL_earliestStartByRounds_3 rfl (qh_callV C (rest := [qI (0 : Int32), qR 38 0]) (cb := 0) (sb := 0) (t_X7_earliestStartByRounds hl a2 s0) mw_X7_earliestStartByRounds lk_L_80 in_X7_earliestStartByRounds se_X7_earliestStartByRounds rfl (by decide) (by decide) rfl rfl (Nat.le_of_ble_eq_true rfl) (by decide) dL_earliestStartByRounds_4 rfl (qkI (fun r1 s1 => (qv_i2l C dL_earliestStartByRounds_7 (qv_last! C (x := r1) rfl (by decide) (by decide) (by decide) dL_earliestStartByRounds_8 (qv_let (fun s2 => (qv_goto C (tgt := 15) dL_earliestStartByRounds_9 (by decide) (qv_iconst C (v := (0 : Int32)) dL_earliestStartByRounds_15 (by decide) (qv_iret C hret dL_earliestStartByRounds_16))))))))) (fun E s1 => (qVX_if (qVX_catch C ht [] [] (x := (0, 9, 12, 21)) (i := 3) (n := 1) rfl (fun _ h => absurd h List.not_mem_nil) (by decide) (by decide) ckl_21 cast_IOE (Or.inr ⟨_, dL_earliestStartByRounds_12, rfl, rfl⟩) (by decide) rfl (qv_iconst C (v := (1 : Int32)) dL_earliestStartByRounds_13 (by decide) (qv_iret C hret dL_earliestStartByRounds_14))) qVX_no)))))))
def f_L_latestStart (a2 : Int32) (s0 : qS) : Option qO :=
  qbind (f_X7_latestStart a2 s0) (qvI (fun r1 s1 =>
  qlet (qu s1 38 0 0 r1) (fun s2 =>
  (some (.inl (some (qI (0 : Int32))), s2))))) (fun E s1 => (if E = qIOE then (some (.inl (some (qI (1 : Int32))), s1)) else
  none))
set_option maxRecDepth 100000 in
set_option maxHeartbeats 4000000 in
theorem t_L_latestStart {g : qG} {l : Launch} (hl : l.stackTraces = false) (a2 : Int32) (s0 : qS) : qM g l 25 1 6 (.codeWith yL_latestStart cL_latestStart 4 (some .int) [(0, 9, 12, 21)]) yL_latestStart [qR 0 0, qI a2, qR 38 0] s0 (f_L_latestStart a2 s0) := by
  refine qM_ofH (by decide +kernel) hl (List.forall_mem_cons.mpr ⟨rfl, (List.forall_mem_cons.mpr ⟨rfl, (List.forall_mem_cons.mpr ⟨rfl, (fun _ h => absurd h List.not_mem_nil)⟩)⟩)⟩) (Nat.le_of_ble_eq_true rfl) ?_
  intro p e s m args below meth c C hret ht
  show qV p l e _ s m args below meth c g _ _ _ _ _ 0 [some (qR 0 0), some (qI a2), some (qR 38 0), none] [] s0
  exact (qv_aload_n C dL_latestStart_0 rfl (qv_iconst C (v := (0 : Int32)) dL_latestStart_1 (by decide) (qv_aload_n C dL_latestStart_2 rfl (qv_iload_n C dL_latestStart_3 rfl (qh_callV C (rest := [qI (0 : Int32), qR 38 0]) (cb := 0) (sb := 0) (t_X7_latestStart hl a2 s0) mw_X7_latestStart lk_L_83 in_X7_latestStart se_X7_latestStart rfl (by decide) (by decide) rfl rfl (Nat.le_of_ble_eq_true rfl) (by decide) dL_latestStart_4 rfl (qkI (fun r1 s1 => (qv_i2l C dL_latestStart_7 (qv_last! C (x := r1) rfl (by decide) (by decide) (by decide) dL_latestStart_8 (qv_let (fun s2 => (qv_goto C (tgt := 15) dL_latestStart_9 (by decide) (qv_iconst C (v := (0 : Int32)) dL_latestStart_15 (by decide) (qv_iret C hret dL_latestStart_16))))))))) (fun E s1 => (qVX_if (qVX_catch C ht [] [] (x := (0, 9, 12, 21)) (i := 3) (n := 1) rfl (fun _ h => absurd h List.not_mem_nil) (by decide) (by decide) ckl_21 cast_IOE (Or.inr ⟨_, dL_latestStart_12, rfl, rfl⟩) (by decide) rfl (qv_iconst C (v := (1 : Int32)) dL_latestStart_13 (by decide) (qv_iret C hret dL_latestStart_14))) qVX_no)))))))
def f_L_slack (a2 : Int32) (s0 : qS) : Option qO :=
  qbind (f_X7_slack a2 s0) (qvI (fun r1 s1 =>
  qlet (qu s1 38 0 0 r1) (fun s2 =>
  (some (.inl (some (qI (0 : Int32))), s2))))) (fun E s1 => (if E = qIOE then (some (.inl (some (qI (1 : Int32))), s1)) else
  none))
set_option maxRecDepth 100000 in
set_option maxHeartbeats 4000000 in
theorem t_L_slack {g : qG} {l : Launch} (hl : l.stackTraces = false) (a2 : Int32) (s0 : qS) : qM g l 25 1 6 (.codeWith yL_slack cL_slack 4 (some .int) [(0, 9, 12, 21)]) yL_slack [qR 0 0, qI a2, qR 38 0] s0 (f_L_slack a2 s0) := by
  refine qM_ofH (by decide +kernel) hl (List.forall_mem_cons.mpr ⟨rfl, (List.forall_mem_cons.mpr ⟨rfl, (List.forall_mem_cons.mpr ⟨rfl, (fun _ h => absurd h List.not_mem_nil)⟩)⟩)⟩) (Nat.le_of_ble_eq_true rfl) ?_
  intro p e s m args below meth c C hret ht
  show qV p l e _ s m args below meth c g _ _ _ _ _ 0 [some (qR 0 0), some (qI a2), some (qR 38 0), none] [] s0
  exact (qv_aload_n C dL_slack_0 rfl (qv_iconst C (v := (0 : Int32)) dL_slack_1 (by decide) (qv_aload_n C dL_slack_2 rfl (qv_iload_n C dL_slack_3 rfl (qh_callV C (rest := [qI (0 : Int32), qR 38 0]) (cb := 0) (sb := 0) (t_X7_slack hl a2 s0) mw_X7_slack lk_L_86 in_X7_slack se_X7_slack rfl (by decide) (by decide) rfl rfl (Nat.le_of_ble_eq_true rfl) (by decide) dL_slack_4 rfl (qkI (fun r1 s1 => (qv_i2l C dL_slack_7 (qv_last! C (x := r1) rfl (by decide) (by decide) (by decide) dL_slack_8 (qv_let (fun s2 => (qv_goto C (tgt := 15) dL_slack_9 (by decide) (qv_iconst C (v := (0 : Int32)) dL_slack_15 (by decide) (qv_iret C hret dL_slack_16))))))))) (fun E s1 => (qVX_if (qVX_catch C ht [] [] (x := (0, 9, 12, 21)) (i := 3) (n := 1) rfl (fun _ h => absurd h List.not_mem_nil) (by decide) (by decide) ckl_21 cast_IOE (Or.inr ⟨_, dL_slack_12, rfl, rfl⟩) (by decide) rfl (qv_iconst C (v := (1 : Int32)) dL_slack_13 (by decide) (qv_iret C hret dL_slack_14))) qVX_no)))))))
def f_L_isCritical (a2 : Int32) (s0 : qS) : Option qO :=
  qbind (f_X7_isCritical a2 s0) (qvI (fun r1 s1 =>
  (if r1 = 0 then qlet (qu s1 38 0 0 (0 : Int32)) (fun s2 =>
  (some (.inl (some (qI (0 : Int32))), s2))) else
  qlet (qu s1 38 0 0 (1 : Int32)) (fun s3 =>
  (some (.inl (some (qI (0 : Int32))), s3)))))) (fun E s1 => (if E = qIOE then (some (.inl (some (qI (1 : Int32))), s1)) else
  none))
set_option maxRecDepth 100000 in
set_option maxHeartbeats 4000000 in
theorem t_L_isCritical {g : qG} {l : Launch} (hl : l.stackTraces = false) (a2 : Int32) (s0 : qS) : qM g l 25 1 6 (.codeWith yL_isCritical cL_isCritical 4 (some .int) [(0, 16, 19, 21)]) yL_isCritical [qR 0 0, qI a2, qR 38 0] s0 (f_L_isCritical a2 s0) := by
  refine qM_ofH (by decide +kernel) hl (List.forall_mem_cons.mpr ⟨rfl, (List.forall_mem_cons.mpr ⟨rfl, (List.forall_mem_cons.mpr ⟨rfl, (fun _ h => absurd h List.not_mem_nil)⟩)⟩)⟩) (Nat.le_of_ble_eq_true rfl) ?_
  intro p e s m args below meth c C hret ht
  show qV p l e _ s m args below meth c g _ _ _ _ _ 0 [some (qR 0 0), some (qI a2), some (qR 38 0), none] [] s0
  exact (qv_aload_n C dL_isCritical_0 rfl (qv_iconst C (v := (0 : Int32)) dL_isCritical_1 (by decide) (qv_aload_n C dL_isCritical_2 rfl (qv_iload_n C dL_isCritical_3 rfl (qh_callV C (rest := [qI (0 : Int32), qR 38 0]) (cb := 0) (sb := 0) (t_X7_isCritical hl a2 s0) mw_X7_isCritical lk_L_89 in_X7_isCritical se_X7_isCritical rfl (by decide) (by decide) rfl rfl (Nat.le_of_ble_eq_true rfl) (by decide) dL_isCritical_4 rfl (qkI (fun r1 s1 => (qv_if_eq C (tgt := 14) dL_isCritical_7 (by decide) (fun _ => (qv_lconst C (v := 0) dL_isCritical_14 (by decide) (qv_last! C (x := (0 : Int32)) rfl (by decide) (by decide) (by decide) dL_isCritical_15 (qv_let (fun s2 => (qv_goto C (tgt := 22) dL_isCritical_16 (by decide) (qv_iconst C (v := (0 : Int32)) dL_isCritical_22 (by decide) (qv_iret C hret dL_isCritical_23))))))))
  (fun _ => (qv_lconst C (v := 1) dL_isCritical_10 (by decide) (qv_goto C (tgt := 15) dL_isCritical_11 (by decide) (qv_last! C (x := (1 : Int32)) rfl (by decide) (by decide) (by decide) dL_isCritical_15 (qv_let (fun s3 => (qv_goto C (tgt := 22) dL_isCritical_16 (by decide) (qv_iconst C (v := (0 : Int32)) dL_isCritical_22 (by decide) (qv_iret C hret dL_isCritical_23)))))))))))) (fun E s1 => (qVX_if (qVX_catch C ht [] [] (x := (0, 16, 19, 21)) (i := 3) (n := 1) rfl (fun _ h => absurd h List.not_mem_nil) (by decide) (by decide) ckl_21 cast_IOE (Or.inr ⟨_, dL_isCritical_19, rfl, rfl⟩) (by decide) rfl (qv_iconst C (v := (1 : Int32)) dL_isCritical_20 (by decide) (qv_iret C hret dL_isCritical_21))) qVX_no)))))))
def f_L_lastTask  (s0 : qS) : Option qO :=
  qbind (f_X7_lastTask  s0) (qvI (fun r1 s1 =>
  qlet (qu s1 38 0 0 r1) (fun s2 =>
  (some (.inl (some (qI (0 : Int32))), s2))))) (fun E s1 => (if E = qNSE then (some (.inl (some (qI (1 : Int32))), s1)) else
  none))
set_option maxRecDepth 100000 in
set_option maxHeartbeats 4000000 in
theorem t_L_lastTask {g : qG} {l : Launch} (hl : l.stackTraces = false)  (s0 : qS) : qM g l 25 1 6 (.codeWith yL_lastTask cL_lastTask 3 (some .int) [(0, 8, 11, 75)]) yL_lastTask [qR 0 0, qR 38 0] s0 (f_L_lastTask  s0) := by
  refine qM_ofH (by decide +kernel) hl (List.forall_mem_cons.mpr ⟨rfl, (List.forall_mem_cons.mpr ⟨rfl, (fun _ h => absurd h List.not_mem_nil)⟩)⟩) (Nat.le_of_ble_eq_true rfl) ?_
  intro p e s m args below meth c C hret ht
  show qV p l e _ s m args below meth c g _ _ _ _ _ 0 [some (qR 0 0), some (qR 38 0), none] [] s0
  exact (qv_aload_n C dL_lastTask_0 rfl (qv_iconst C (v := (0 : Int32)) dL_lastTask_1 (by decide) (qv_aload_n C dL_lastTask_2 rfl (qh_callV C (rest := [qI (0 : Int32), qR 38 0]) (cb := 0) (sb := 0) (t_X7_lastTask hl  s0) mw_X7_lastTask lk_L_93 in_X7_lastTask se_X7_lastTask rfl (by decide) (by decide) rfl rfl (Nat.le_of_ble_eq_true rfl) (by decide) dL_lastTask_3 rfl (qkI (fun r1 s1 => (qv_i2l C dL_lastTask_6 (qv_last! C (x := r1) rfl (by decide) (by decide) (by decide) dL_lastTask_7 (qv_let (fun s2 => (qv_goto C (tgt := 14) dL_lastTask_8 (by decide) (qv_iconst C (v := (0 : Int32)) dL_lastTask_14 (by decide) (qv_iret C hret dL_lastTask_15))))))))) (fun E s1 => (qVX_if (qVX_catch C ht [] [] (x := (0, 8, 11, 75)) (i := 2) (n := 1) rfl (fun _ h => absurd h List.not_mem_nil) (by decide) (by decide) ckl_75 cast_NSE (Or.inr ⟨_, dL_lastTask_11, rfl, rfl⟩) (by decide) rfl (qv_iconst C (v := (1 : Int32)) dL_lastTask_12 (by decide) (qv_iret C hret dL_lastTask_13))) qVX_no))))))
def f_L_levelledStart (a2 : Int32) (s0 : qS) : Option qO :=
  qbind (f_X7_levelledStart a2 s0) (qvI (fun r1 s1 =>
  qlet (qu s1 38 0 0 r1) (fun s2 =>
  (some (.inl (some (qI (0 : Int32))), s2))))) (fun E s1 => (if E = qIOE then (some (.inl (some (qI (1 : Int32))), s1)) else
  none))
set_option maxRecDepth 100000 in
set_option maxHeartbeats 4000000 in
theorem t_L_levelledStart {g : qG} {l : Launch} (hl : l.stackTraces = false) (a2 : Int32) (s0 : qS) : qM g l 25 1 6 (.codeWith yL_levelledStart cL_levelledStart 4 (some .int) [(0, 9, 12, 21)]) yL_levelledStart [qR 0 0, qI a2, qR 38 0] s0 (f_L_levelledStart a2 s0) := by
  refine qM_ofH (by decide +kernel) hl (List.forall_mem_cons.mpr ⟨rfl, (List.forall_mem_cons.mpr ⟨rfl, (List.forall_mem_cons.mpr ⟨rfl, (fun _ h => absurd h List.not_mem_nil)⟩)⟩)⟩) (Nat.le_of_ble_eq_true rfl) ?_
  intro p e s m args below meth c C hret ht
  show qV p l e _ s m args below meth c g _ _ _ _ _ 0 [some (qR 0 0), some (qI a2), some (qR 38 0), none] [] s0
  exact (qv_aload_n C dL_levelledStart_0 rfl (qv_iconst C (v := (0 : Int32)) dL_levelledStart_1 (by decide) (qv_aload_n C dL_levelledStart_2 rfl (qv_iload_n C dL_levelledStart_3 rfl (qh_callV C (rest := [qI (0 : Int32), qR 38 0]) (cb := 0) (sb := 0) (t_X7_levelledStart hl a2 s0) mw_X7_levelledStart lk_L_97 in_X7_levelledStart se_X7_levelledStart rfl (by decide) (by decide) rfl rfl (Nat.le_of_ble_eq_true rfl) (by decide) dL_levelledStart_4 rfl (qkI (fun r1 s1 => (qv_i2l C dL_levelledStart_7 (qv_last! C (x := r1) rfl (by decide) (by decide) (by decide) dL_levelledStart_8 (qv_let (fun s2 => (qv_goto C (tgt := 15) dL_levelledStart_9 (by decide) (qv_iconst C (v := (0 : Int32)) dL_levelledStart_15 (by decide) (qv_iret C hret dL_levelledStart_16))))))))) (fun E s1 => (qVX_if (qVX_catch C ht [] [] (x := (0, 9, 12, 21)) (i := 3) (n := 1) rfl (fun _ h => absurd h List.not_mem_nil) (by decide) (by decide) ckl_21 cast_IOE (Or.inr ⟨_, dL_levelledStart_12, rfl, rfl⟩) (by decide) rfl (qv_iconst C (v := (1 : Int32)) dL_levelledStart_13 (by decide) (qv_iret C hret dL_levelledStart_14))) qVX_no)))))))
def f_L_usage (a2 : Int32) (a3 : Int32) (s0 : qS) : Option qO :=
  qbind (f_X7_usage a2 a3 s0) (qvI (fun r1 s1 =>
  qlet (qu s1 38 0 0 r1) (fun s2 =>
  (some (.inl (some (qI (0 : Int32))), s2))))) (fun E s1 => (if E = qIAE then (some (.inl (some (qI (1 : Int32))), s1)) else
  none))
set_option maxRecDepth 100000 in
set_option maxHeartbeats 4000000 in
theorem t_L_usage {g : qG} {l : Launch} (hl : l.stackTraces = false) (a2 : Int32) (a3 : Int32) (s0 : qS) : qM g l 25 2 12 (.codeWith yL_usage cL_usage 5 (some .int) [(0, 10, 13, 13)]) yL_usage [qR 0 0, qI a2, qI a3, qR 38 0] s0 (f_L_usage a2 a3 s0) := by
  refine qM_ofH (by decide +kernel) hl (List.forall_mem_cons.mpr ⟨rfl, (List.forall_mem_cons.mpr ⟨rfl, (List.forall_mem_cons.mpr ⟨rfl, (List.forall_mem_cons.mpr ⟨rfl, (fun _ h => absurd h List.not_mem_nil)⟩)⟩)⟩)⟩) (Nat.le_of_ble_eq_true rfl) ?_
  intro p e s m args below meth c C hret ht
  show qV p l e _ s m args below meth c g _ _ _ _ _ 0 [some (qR 0 0), some (qI a2), some (qI a3), some (qR 38 0), none] [] s0
  exact (qv_aload_n C dL_usage_0 rfl (qv_iconst C (v := (0 : Int32)) dL_usage_1 (by decide) (qv_aload_n C dL_usage_2 rfl (qv_iload_n C dL_usage_3 rfl (qv_iload_n C dL_usage_4 rfl (qh_callV C (rest := [qI (0 : Int32), qR 38 0]) (cb := 0) (sb := 0) (t_X7_usage hl a2 a3 s0) mw_X7_usage lk_L_100 in_X7_usage se_X7_usage rfl (by decide) (by decide) rfl rfl (Nat.le_of_ble_eq_true rfl) (by decide) dL_usage_5 rfl (qkI (fun r1 s1 => (qv_i2l C dL_usage_8 (qv_last! C (x := r1) rfl (by decide) (by decide) (by decide) dL_usage_9 (qv_let (fun s2 => (qv_goto C (tgt := 17) dL_usage_10 (by decide) (qv_iconst C (v := (0 : Int32)) dL_usage_17 (by decide) (qv_iret C hret dL_usage_18))))))))) (fun E s1 => (qVX_if (qVX_catch C ht [] [] (x := (0, 10, 13, 13)) (i := 4) (n := 2) rfl (fun _ h => absurd h List.not_mem_nil) (by decide) (by decide) ckl_13 cast_IAE (Or.inl ⟨dL_usage_13, rfl⟩) (by decide) rfl (qv_iconst C (v := (1 : Int32)) dL_usage_15 (by decide) (qv_iret C hret dL_usage_16))) qVX_no))))))))
def f_L_usageByTasks (a2 : Int32) (a3 : Int32) (s0 : qS) : Option qO :=
  qbind (f_X7_usageByTasks a2 a3 s0) (qvI (fun r1 s1 =>
  qlet (qu s1 38 0 0 r1) (fun s2 =>
  (some (.inl (some (qI (0 : Int32))), s2))))) (fun E s1 => (if E = qIAE then (some (.inl (some (qI (1 : Int32))), s1)) else
  none))
set_option maxRecDepth 100000 in
set_option maxHeartbeats 4000000 in
theorem t_L_usageByTasks {g : qG} {l : Launch} (hl : l.stackTraces = false) (a2 : Int32) (a3 : Int32) (s0 : qS) : qM g l 26 2 12 (.codeWith yL_usageByTasks cL_usageByTasks 5 (some .int) [(0, 10, 13, 13)]) yL_usageByTasks [qR 0 0, qI a2, qI a3, qR 38 0] s0 (f_L_usageByTasks a2 a3 s0) := by
  refine qM_ofH (by decide +kernel) hl (List.forall_mem_cons.mpr ⟨rfl, (List.forall_mem_cons.mpr ⟨rfl, (List.forall_mem_cons.mpr ⟨rfl, (List.forall_mem_cons.mpr ⟨rfl, (fun _ h => absurd h List.not_mem_nil)⟩)⟩)⟩)⟩) (Nat.le_of_ble_eq_true rfl) ?_
  intro p e s m args below meth c C hret ht
  show qV p l e _ s m args below meth c g _ _ _ _ _ 0 [some (qR 0 0), some (qI a2), some (qI a3), some (qR 38 0), none] [] s0
  exact (qv_aload_n C dL_usageByTasks_0 rfl (qv_iconst C (v := (0 : Int32)) dL_usageByTasks_1 (by decide) (qv_aload_n C dL_usageByTasks_2 rfl (qv_iload_n C dL_usageByTasks_3 rfl (qv_iload_n C dL_usageByTasks_4 rfl (qh_callV C (rest := [qI (0 : Int32), qR 38 0]) (cb := 0) (sb := 0) (t_X7_usageByTasks hl a2 a3 s0) mw_X7_usageByTasks lk_L_103 in_X7_usageByTasks se_X7_usageByTasks rfl (by decide) (by decide) rfl rfl (Nat.le_of_ble_eq_true rfl) (by decide) dL_usageByTasks_5 rfl (qkI (fun r1 s1 => (qv_i2l C dL_usageByTasks_8 (qv_last! C (x := r1) rfl (by decide) (by decide) (by decide) dL_usageByTasks_9 (qv_let (fun s2 => (qv_goto C (tgt := 17) dL_usageByTasks_10 (by decide) (qv_iconst C (v := (0 : Int32)) dL_usageByTasks_17 (by decide) (qv_iret C hret dL_usageByTasks_18))))))))) (fun E s1 => (qVX_if (qVX_catch C ht [] [] (x := (0, 10, 13, 13)) (i := 4) (n := 2) rfl (fun _ h => absurd h List.not_mem_nil) (by decide) (by decide) ckl_13 cast_IAE (Or.inl ⟨dL_usageByTasks_13, rfl⟩) (by decide) rfl (qv_iconst C (v := (1 : Int32)) dL_usageByTasks_15 (by decide) (qv_iret C hret dL_usageByTasks_16))) qVX_no))))))))
def f_L_peakUsage (a2 : Int32) (s0 : qS) : Option qO :=
  qbind (f_X7_peakUsage a2 s0) (qvI (fun r1 s1 =>
  qlet (qu s1 38 0 0 r1) (fun s2 =>
  (some (.inl (some (qI (0 : Int32))), s2))))) (fun E s1 => (if E = qIAE then (some (.inl (some (qI (1 : Int32))), s1)) else
  none))
set_option maxRecDepth 100000 in
set_option maxHeartbeats 4000000 in
theorem t_L_peakUsage {g : qG} {l : Launch} (hl : l.stackTraces = false) (a2 : Int32) (s0 : qS) : qM g l 25 1 6 (.codeWith yL_peakUsage cL_peakUsage 4 (some .int) [(0, 9, 12, 13)]) yL_peakUsage [qR 0 0, qI a2, qR 38 0] s0 (f_L_peakUsage a2 s0) := by
  refine qM_ofH (by decide +kernel) hl (List.forall_mem_cons.mpr ⟨rfl, (List.forall_mem_cons.mpr ⟨rfl, (List.forall_mem_cons.mpr ⟨rfl, (fun _ h => absurd h List.not_mem_nil)⟩)⟩)⟩) (Nat.le_of_ble_eq_true rfl) ?_
  intro p e s m args below meth c C hret ht
  show qV p l e _ s m args below meth c g _ _ _ _ _ 0 [some (qR 0 0), some (qI a2), some (qR 38 0), none] [] s0
  exact (qv_aload_n C dL_peakUsage_0 rfl (qv_iconst C (v := (0 : Int32)) dL_peakUsage_1 (by decide) (qv_aload_n C dL_peakUsage_2 rfl (qv_iload_n C dL_peakUsage_3 rfl (qh_callV C (rest := [qI (0 : Int32), qR 38 0]) (cb := 0) (sb := 0) (t_X7_peakUsage hl a2 s0) mw_X7_peakUsage lk_L_106 in_X7_peakUsage se_X7_peakUsage rfl (by decide) (by decide) rfl rfl (Nat.le_of_ble_eq_true rfl) (by decide) dL_peakUsage_4 rfl (qkI (fun r1 s1 => (qv_i2l C dL_peakUsage_7 (qv_last! C (x := r1) rfl (by decide) (by decide) (by decide) dL_peakUsage_8 (qv_let (fun s2 => (qv_goto C (tgt := 15) dL_peakUsage_9 (by decide) (qv_iconst C (v := (0 : Int32)) dL_peakUsage_15 (by decide) (qv_iret C hret dL_peakUsage_16))))))))) (fun E s1 => (qVX_if (qVX_catch C ht [] [] (x := (0, 9, 12, 13)) (i := 3) (n := 1) rfl (fun _ h => absurd h List.not_mem_nil) (by decide) (by decide) ckl_13 cast_IAE (Or.inr ⟨_, dL_peakUsage_12, rfl, rfl⟩) (by decide) rfl (qv_iconst C (v := (1 : Int32)) dL_peakUsage_13 (by decide) (qv_iret C hret dL_peakUsage_14))) qVX_no)))))))
def f_L_tasksOn (a2 : Int32) (s0 : qS) : Option qO :=
  qbind (f_X7_tasksOn a2 s0) (qvI (fun r1 s1 =>
  qlet (qu s1 38 0 0 r1) (fun s2 =>
  (some (.inl (some (qI (0 : Int32))), s2))))) (fun E s1 => (if E = qIAE then (some (.inl (some (qI (1 : Int32))), s1)) else
  none))
set_option maxRecDepth 100000 in
set_option maxHeartbeats 4000000 in
theorem t_L_tasksOn {g : qG} {l : Launch} (hl : l.stackTraces = false) (a2 : Int32) (s0 : qS) : qM g l 26 1 6 (.codeWith yL_tasksOn cL_tasksOn 4 (some .int) [(0, 9, 12, 13)]) yL_tasksOn [qR 0 0, qI a2, qR 38 0] s0 (f_L_tasksOn a2 s0) := by
  refine qM_ofH (by decide +kernel) hl (List.forall_mem_cons.mpr ⟨rfl, (List.forall_mem_cons.mpr ⟨rfl, (List.forall_mem_cons.mpr ⟨rfl, (fun _ h => absurd h List.not_mem_nil)⟩)⟩)⟩) (Nat.le_of_ble_eq_true rfl) ?_
  intro p e s m args below meth c C hret ht
  show qV p l e _ s m args below meth c g _ _ _ _ _ 0 [some (qR 0 0), some (qI a2), some (qR 38 0), none] [] s0
  exact (qv_aload_n C dL_tasksOn_0 rfl (qv_iconst C (v := (0 : Int32)) dL_tasksOn_1 (by decide) (qv_aload_n C dL_tasksOn_2 rfl (qv_iload_n C dL_tasksOn_3 rfl (qh_callV C (rest := [qI (0 : Int32), qR 38 0]) (cb := 0) (sb := 0) (t_X7_tasksOn hl a2 s0) mw_X7_tasksOn lk_L_109 in_X7_tasksOn se_X7_tasksOn rfl (by decide) (by decide) rfl rfl (Nat.le_of_ble_eq_true rfl) (by decide) dL_tasksOn_4 rfl (qkI (fun r1 s1 => (qv_i2l C dL_tasksOn_7 (qv_last! C (x := r1) rfl (by decide) (by decide) (by decide) dL_tasksOn_8 (qv_let (fun s2 => (qv_goto C (tgt := 15) dL_tasksOn_9 (by decide) (qv_iconst C (v := (0 : Int32)) dL_tasksOn_15 (by decide) (qv_iret C hret dL_tasksOn_16))))))))) (fun E s1 => (qVX_if (qVX_catch C ht [] [] (x := (0, 9, 12, 13)) (i := 3) (n := 1) rfl (fun _ h => absurd h List.not_mem_nil) (by decide) (by decide) ckl_13 cast_IAE (Or.inr ⟨_, dL_tasksOn_12, rfl, rfl⟩) (by decide) rfl (qv_iconst C (v := (1 : Int32)) dL_tasksOn_13 (by decide) (qv_iret C hret dL_tasksOn_14))) qVX_no)))))))
def f_L_workload (a2 : Int32) (s0 : qS) : Option qO :=
  qbind (f_X7_workload a2 s0) (qvI (fun r1 s1 =>
  qlet (qu s1 38 0 0 r1) (fun s2 =>
  (some (.inl (some (qI (0 : Int32))), s2))))) (fun E s1 => (if E = qIAE then (some (.inl (some (qI (1 : Int32))), s1)) else
  none))
set_option maxRecDepth 100000 in
set_option maxHeartbeats 4000000 in
theorem t_L_workload {g : qG} {l : Launch} (hl : l.stackTraces = false) (a2 : Int32) (s0 : qS) : qM g l 4 1 6 (.codeWith yL_workload cL_workload 4 (some .int) [(0, 9, 12, 13)]) yL_workload [qR 0 0, qI a2, qR 38 0] s0 (f_L_workload a2 s0) := by
  refine qM_ofH (by decide +kernel) hl (List.forall_mem_cons.mpr ⟨rfl, (List.forall_mem_cons.mpr ⟨rfl, (List.forall_mem_cons.mpr ⟨rfl, (fun _ h => absurd h List.not_mem_nil)⟩)⟩)⟩) (Nat.le_of_ble_eq_true rfl) ?_
  intro p e s m args below meth c C hret ht
  show qV p l e _ s m args below meth c g _ _ _ _ _ 0 [some (qR 0 0), some (qI a2), some (qR 38 0), none] [] s0
  exact (qv_aload_n C dL_workload_0 rfl (qv_iconst C (v := (0 : Int32)) dL_workload_1 (by decide) (qv_aload_n C dL_workload_2 rfl (qv_iload_n C dL_workload_3 rfl (qh_callV C (rest := [qI (0 : Int32), qR 38 0]) (cb := 0) (sb := 0) (t_X7_workload hl a2 s0) mw_X7_workload lk_L_112 in_X7_workload se_X7_workload rfl (by decide) (by decide) rfl rfl (Nat.le_of_ble_eq_true rfl) (by decide) dL_workload_4 rfl (qkI (fun r1 s1 => (qv_i2l C dL_workload_7 (qv_last! C (x := r1) rfl (by decide) (by decide) (by decide) dL_workload_8 (qv_let (fun s2 => (qv_goto C (tgt := 15) dL_workload_9 (by decide) (qv_iconst C (v := (0 : Int32)) dL_workload_15 (by decide) (qv_iret C hret dL_workload_16))))))))) (fun E s1 => (qVX_if (qVX_catch C ht [] [] (x := (0, 9, 12, 13)) (i := 3) (n := 1) rfl (fun _ h => absurd h List.not_mem_nil) (by decide) (by decide) ckl_13 cast_IAE (Or.inr ⟨_, dL_workload_12, rfl, rfl⟩) (by decide) rfl (qv_iconst C (v := (1 : Int32)) dL_workload_13 (by decide) (qv_iret C hret dL_workload_14))) qVX_no)))))))
def f_L_workloadByDays (a2 : Int32) (s0 : qS) : Option qO :=
  qbind (f_X7_workloadByDays a2 s0) (qvI (fun r1 s1 =>
  qlet (qu s1 38 0 0 r1) (fun s2 =>
  (some (.inl (some (qI (0 : Int32))), s2))))) (fun E s1 => (if E = qIAE then (some (.inl (some (qI (1 : Int32))), s1)) else
  none))
set_option maxRecDepth 100000 in
set_option maxHeartbeats 4000000 in
theorem t_L_workloadByDays {g : qG} {l : Launch} (hl : l.stackTraces = false) (a2 : Int32) (s0 : qS) : qM g l 25 1 6 (.codeWith yL_workloadByDays cL_workloadByDays 4 (some .int) [(0, 9, 12, 13)]) yL_workloadByDays [qR 0 0, qI a2, qR 38 0] s0 (f_L_workloadByDays a2 s0) := by
  refine qM_ofH (by decide +kernel) hl (List.forall_mem_cons.mpr ⟨rfl, (List.forall_mem_cons.mpr ⟨rfl, (List.forall_mem_cons.mpr ⟨rfl, (fun _ h => absurd h List.not_mem_nil)⟩)⟩)⟩) (Nat.le_of_ble_eq_true rfl) ?_
  intro p e s m args below meth c C hret ht
  show qV p l e _ s m args below meth c g _ _ _ _ _ 0 [some (qR 0 0), some (qI a2), some (qR 38 0), none] [] s0
  exact (qv_aload_n C dL_workloadByDays_0 rfl (qv_iconst C (v := (0 : Int32)) dL_workloadByDays_1 (by decide) (qv_aload_n C dL_workloadByDays_2 rfl (qv_iload_n C dL_workloadByDays_3 rfl (qh_callV C (rest := [qI (0 : Int32), qR 38 0]) (cb := 0) (sb := 0) (t_X7_workloadByDays hl a2 s0) mw_X7_workloadByDays lk_L_115 in_X7_workloadByDays se_X7_workloadByDays rfl (by decide) (by decide) rfl rfl (Nat.le_of_ble_eq_true rfl) (by decide) dL_workloadByDays_4 rfl (qkI (fun r1 s1 => (qv_i2l C dL_workloadByDays_7 (qv_last! C (x := r1) rfl (by decide) (by decide) (by decide) dL_workloadByDays_8 (qv_let (fun s2 => (qv_goto C (tgt := 15) dL_workloadByDays_9 (by decide) (qv_iconst C (v := (0 : Int32)) dL_workloadByDays_15 (by decide) (qv_iret C hret dL_workloadByDays_16))))))))) (fun E s1 => (qVX_if (qVX_catch C ht [] [] (x := (0, 9, 12, 13)) (i := 3) (n := 1) rfl (fun _ h => absurd h List.not_mem_nil) (by decide) (by decide) ckl_13 cast_IAE (Or.inr ⟨_, dL_workloadByDays_12, rfl, rfl⟩) (by decide) rfl (qv_iconst C (v := (1 : Int32)) dL_workloadByDays_13 (by decide) (qv_iret C hret dL_workloadByDays_14))) qVX_no)))))))
def f_L_baselineStart (a2 : Int32) (s0 : qS) : Option qO :=
  qbind (f_X7_baselineStart a2 s0) (qvI (fun r1 s1 =>
  qlet (qu s1 38 0 0 r1) (fun s2 =>
  (some (.inl (some (qI (0 : Int32))), s2))))) (fun E s1 => (if E = qIOE then (some (.inl (some (qI (1 : Int32))), s1)) else
  (if E = qNSE then (some (.inl (some (qI (2 : Int32))), s1)) else
  none)))
set_option maxRecDepth 100000 in
set_option maxHeartbeats 4000000 in
theorem t_L_baselineStart {g : qG} {l : Launch} (hl : l.stackTraces = false) (a2 : Int32) (s0 : qS) : qM g l 5 2 12 (.codeWith yL_baselineStart cL_baselineStart 4 (some .int) [(0, 9, 12, 21), (0, 9, 15, 75)]) yL_baselineStart [qR 0 0, qI a2, qR 38 0] s0 (f_L_baselineStart a2 s0) := by
  refine qM_ofH (by decide +kernel) hl (List.forall_mem_cons.mpr ⟨rfl, (List.forall_mem_cons.mpr ⟨rfl, (List.forall_mem_cons.mpr ⟨rfl, (fun _ h => absurd h List.not_mem_nil)⟩)⟩)⟩) (Nat.le_of_ble_eq_true rfl) ?_
  intro p e s m args below meth c C hret ht
  show qV p l e _ s m args below meth c g _ _ _ _ _ 0 [some (qR 0 0), some (qI a2), some (qR 38 0), none] [] s0
  exact (qv_aload_n C dL_baselineStart_0 rfl (qv_iconst C (v := (0 : Int32)) dL_baselineStart_1 (by decide) (qv_aload_n C dL_baselineStart_2 rfl (qv_iload_n C dL_baselineStart_3 rfl (qh_callV C (rest := [qI (0 : Int32), qR 38 0]) (cb := 0) (sb := 0) (t_X7_baselineStart hl a2 s0) mw_X7_baselineStart lk_L_118 in_X7_baselineStart se_X7_baselineStart rfl (by decide) (by decide) rfl rfl (Nat.le_of_ble_eq_true rfl) (by decide) dL_baselineStart_4 rfl (qkI (fun r1 s1 => (qv_i2l C dL_baselineStart_7 (qv_last! C (x := r1) rfl (by decide) (by decide) (by decide) dL_baselineStart_8 (qv_let (fun s2 => (qv_goto C (tgt := 18) dL_baselineStart_9 (by decide) (qv_iconst C (v := (0 : Int32)) dL_baselineStart_18 (by decide) (qv_iret C hret dL_baselineStart_19))))))))) (fun E s1 => (qVX_if (qVX_catch C ht [] [(0, 9, 15, 75)] (x := (0, 9, 12, 21)) (i := 3) (n := 1) rfl (fun _ h => absurd h List.not_mem_nil) (by decide) (by decide) ckl_21 cast_IOE (Or.inr ⟨_, dL_baselineStart_12, rfl, rfl⟩) (by decide) rfl (qv_iconst C (v := (1 : Int32)) dL_baselineStart_13 (by decide) (qv_iret C hret dL_baselineStart_14))) (qVX_if (qVX_catch C ht [(0, 9, 12, 21)] [] (x := (0, 9, 15, 75)) (i := 3) (n := 1) rfl (List.forall_mem_cons.mpr ⟨⟨by decide, _, ckl_21, by decide +kernel⟩, (fun _ h => absurd h List.not_mem_nil)⟩) (by decide) (by decide) ckl_75 cast_NSE (Or.inr ⟨_, dL_baselineStart_15, rfl, rfl⟩) (by decide) rfl (qv_iconst C (v := (2 : Int32)) dL_baselineStart_16 (by decide) (qv_iret C hret dL_baselineStart_17))) qVX_no))))))))
def f_L_drift (a2 : Int32) (s0 : qS) : Option qO :=
  qbind (f_X7_drift a2 s0) (qvI (fun r1 s1 =>
  qlet (qu s1 38 0 0 r1) (fun s2 =>
  (some (.inl (some (qI (0 : Int32))), s2))))) (fun E s1 => (if E = qIOE then (some (.inl (some (qI (1 : Int32))), s1)) else
  (if E = qNSE then (some (.inl (some (qI (2 : Int32))), s1)) else
  none)))
set_option maxRecDepth 100000 in
set_option maxHeartbeats 4000000 in
theorem t_L_drift {g : qG} {l : Launch} (hl : l.stackTraces = false) (a2 : Int32) (s0 : qS) : qM g l 26 2 12 (.codeWith yL_drift cL_drift 4 (some .int) [(0, 9, 12, 21), (0, 9, 15, 75)]) yL_drift [qR 0 0, qI a2, qR 38 0] s0 (f_L_drift a2 s0) := by
  refine qM_ofH (by decide +kernel) hl (List.forall_mem_cons.mpr ⟨rfl, (List.forall_mem_cons.mpr ⟨rfl, (List.forall_mem_cons.mpr ⟨rfl, (fun _ h => absurd h List.not_mem_nil)⟩)⟩)⟩) (Nat.le_of_ble_eq_true rfl) ?_
  intro p e s m args below meth c C hret ht
  show qV p l e _ s m args below meth c g _ _ _ _ _ 0 [some (qR 0 0), some (qI a2), some (qR 38 0), none] [] s0
  exact (qv_aload_n C dL_drift_0 rfl (qv_iconst C (v := (0 : Int32)) dL_drift_1 (by decide) (qv_aload_n C dL_drift_2 rfl (qv_iload_n C dL_drift_3 rfl (qh_callV C (rest := [qI (0 : Int32), qR 38 0]) (cb := 0) (sb := 0) (t_X7_drift hl a2 s0) mw_X7_drift lk_L_121 in_X7_drift se_X7_drift rfl (by decide) (by decide) rfl rfl (Nat.le_of_ble_eq_true rfl) (by decide) dL_drift_4 rfl (qkI (fun r1 s1 => (qv_i2l C dL_drift_7 (qv_last! C (x := r1) rfl (by decide) (by decide) (by decide) dL_drift_8 (qv_let (fun s2 => (qv_goto C (tgt := 18) dL_drift_9 (by decide) (qv_iconst C (v := (0 : Int32)) dL_drift_18 (by decide) (qv_iret C hret dL_drift_19))))))))) (fun E s1 => (qVX_if (qVX_catch C ht [] [(0, 9, 15, 75)] (x := (0, 9, 12, 21)) (i := 3) (n := 1) rfl (fun _ h => absurd h List.not_mem_nil) (by decide) (by decide) ckl_21 cast_IOE (Or.inr ⟨_, dL_drift_12, rfl, rfl⟩) (by decide) rfl (qv_iconst C (v := (1 : Int32)) dL_drift_13 (by decide) (qv_iret C hret dL_drift_14))) (qVX_if (qVX_catch C ht [(0, 9, 12, 21)] [] (x := (0, 9, 15, 75)) (i := 3) (n := 1) rfl (List.forall_mem_cons.mpr ⟨⟨by decide, _, ckl_21, by decide +kernel⟩, (fun _ h => absurd h List.not_mem_nil)⟩) (by decide) (by decide) ckl_75 cast_NSE (Or.inr ⟨_, dL_drift_15, rfl, rfl⟩) (by decide) rfl (qv_iconst C (v := (2 : Int32)) dL_drift_16 (by decide) (qv_iret C hret dL_drift_17))) qVX_no))))))))
def f_L_totalDrift  (s0 : qS) : Option qO :=
  qbind (f_X7_totalDrift  s0) (qvI (fun r1 s1 =>
  qlet (qu s1 38 0 0 r1) (fun s2 =>
  (some (.inl (some (qI (0 : Int32))), s2))))) (fun E s1 => (if E = qNSE then (some (.inl (some (qI (1 : Int32))), s1)) else
  none))
set_option maxRecDepth 100000 in
set_option maxHeartbeats 4000000 in
theorem t_L_totalDrift {g : qG} {l : Launch} (hl : l.stackTraces = false)  (s0 : qS) : qM g l 26 1 6 (.codeWith yL_totalDrift cL_totalDrift 3 (some .int) [(0, 8, 11, 75)]) yL_totalDrift [qR 0 0, qR 38 0] s0 (f_L_totalDrift  s0) := by
  refine qM_ofH (by decide +kernel) hl (List.forall_mem_cons.mpr ⟨rfl, (List.forall_mem_cons.mpr ⟨rfl, (fun _ h => absurd h List.not_mem_nil)⟩)⟩) (Nat.le_of_ble_eq_true rfl) ?_
  intro p e s m args below meth c C hret ht
  show qV p l e _ s m args below meth c g _ _ _ _ _ 0 [some (qR 0 0), some (qR 38 0), none] [] s0
  exact (qv_aload_n C dL_totalDrift_0 rfl (qv_iconst C (v := (0 : Int32)) dL_totalDrift_1 (by decide) (qv_aload_n C dL_totalDrift_2 rfl (qh_callV C (rest := [qI (0 : Int32), qR 38 0]) (cb := 0) (sb := 0) (t_X7_totalDrift hl  s0) mw_X7_totalDrift lk_L_124 in_X7_totalDrift se_X7_totalDrift rfl (by decide) (by decide) rfl rfl (Nat.le_of_ble_eq_true rfl) (by decide) dL_totalDrift_3 rfl (qkI (fun r1 s1 => (qv_i2l C dL_totalDrift_6 (qv_last! C (x := r1) rfl (by decide) (by decide) (by decide) dL_totalDrift_7 (qv_let (fun s2 => (qv_goto C (tgt := 14) dL_totalDrift_8 (by decide) (qv_iconst C (v := (0 : Int32)) dL_totalDrift_14 (by decide) (qv_iret C hret dL_totalDrift_15))))))))) (fun E s1 => (qVX_if (qVX_catch C ht [] [] (x := (0, 8, 11, 75)) (i := 2) (n := 1) rfl (fun _ h => absurd h List.not_mem_nil) (by decide) (by decide) ckl_75 cast_NSE (Or.inr ⟨_, dL_totalDrift_11, rfl, rfl⟩) (by decide) rfl (qv_iconst C (v := (1 : Int32)) dL_totalDrift_12 (by decide) (qv_iret C hret dL_totalDrift_13))) qVX_no))))))
def f_L_taskBySlack (a2 : Int32) (s0 : qS) : Option qO :=
  qbind (f_X7_taskBySlack a2 s0) (qvI (fun r1 s1 =>
  qlet (qu s1 38 0 0 r1) (fun s2 =>
  (some (.inl (some (qI (0 : Int32))), s2))))) (fun E s1 => (if E = qNSE then (some (.inl (some (qI (1 : Int32))), s1)) else
  none))
set_option maxRecDepth 100000 in
set_option maxHeartbeats 4000000 in
theorem t_L_taskBySlack {g : qG} {l : Launch} (hl : l.stackTraces = false) (a2 : Int32) (s0 : qS) : qM g l 25 1 6 (.codeWith yL_taskBySlack cL_taskBySlack 4 (some .int) [(0, 9, 12, 75)]) yL_taskBySlack [qR 0 0, qI a2, qR 38 0] s0 (f_L_taskBySlack a2 s0) := by
  refine qM_ofH (by decide +kernel) hl (List.forall_mem_cons.mpr ⟨rfl, (List.forall_mem_cons.mpr ⟨rfl, (List.forall_mem_cons.mpr ⟨rfl, (fun _ h => absurd h List.not_mem_nil)⟩)⟩)⟩) (Nat.le_of_ble_eq_true rfl) ?_
  intro p e s m args below meth c C hret ht
  show qV p l e _ s m args below meth c g _ _ _ _ _ 0 [some (qR 0 0), some (qI a2), some (qR 38 0), none] [] s0
  exact (qv_aload_n C dL_taskBySlack_0 rfl (qv_iconst C (v := (0 : Int32)) dL_taskBySlack_1 (by decide) (qv_aload_n C dL_taskBySlack_2 rfl (qv_iload_n C dL_taskBySlack_3 rfl (qh_callV C (rest := [qI (0 : Int32), qR 38 0]) (cb := 0) (sb := 0) (t_X7_taskBySlack hl a2 s0) mw_X7_taskBySlack lk_L_127 in_X7_taskBySlack se_X7_taskBySlack rfl (by decide) (by decide) rfl rfl (Nat.le_of_ble_eq_true rfl) (by decide) dL_taskBySlack_4 rfl (qkI (fun r1 s1 => (qv_i2l C dL_taskBySlack_7 (qv_last! C (x := r1) rfl (by decide) (by decide) (by decide) dL_taskBySlack_8 (qv_let (fun s2 => (qv_goto C (tgt := 15) dL_taskBySlack_9 (by decide) (qv_iconst C (v := (0 : Int32)) dL_taskBySlack_15 (by decide) (qv_iret C hret dL_taskBySlack_16))))))))) (fun E s1 => (qVX_if (qVX_catch C ht [] [] (x := (0, 9, 12, 75)) (i := 3) (n := 1) rfl (fun _ h => absurd h List.not_mem_nil) (by decide) (by decide) ckl_75 cast_NSE (Or.inr ⟨_, dL_taskBySlack_12, rfl, rfl⟩) (by decide) rfl (qv_iconst C (v := (1 : Int32)) dL_taskBySlack_13 (by decide) (qv_iret C hret dL_taskBySlack_14))) qVX_no)))))))
def f_L_taskByStart (a2 : Int32) (s0 : qS) : Option qO :=
  qbind (f_X7_taskByStart a2 s0) (qvI (fun r1 s1 =>
  qlet (qu s1 38 0 0 r1) (fun s2 =>
  (some (.inl (some (qI (0 : Int32))), s2))))) (fun E s1 => (if E = qNSE then (some (.inl (some (qI (1 : Int32))), s1)) else
  none))
set_option maxRecDepth 100000 in
set_option maxHeartbeats 4000000 in
theorem t_L_taskByStart {g : qG} {l : Launch} (hl : l.stackTraces = false) (a2 : Int32) (s0 : qS) : qM g l 25 1 6 (.codeWith yL_taskByStart cL_taskByStart 4 (some .int) [(0, 9, 12, 75)]) yL_taskByStart [qR 0 0, qI a2, qR 38 0] s0 (f_L_taskByStart a2 s0) := by
  refine qM_ofH (by decide +kernel) hl (List.forall_mem_cons.mpr ⟨rfl, (List.forall_mem_cons.mpr ⟨rfl, (List.forall_mem_cons.mpr ⟨rfl, (fun _ h => absurd h List.not_mem_nil)⟩)⟩)⟩) (Nat.le_of_ble_eq_true rfl) ?_
  intro p e s m args below meth c C hret ht
  show qV p l e _ s m args below meth c g _ _ _ _ _ 0 [some (qR 0 0), some (qI a2), some (qR 38 0), none] [] s0
  exact (qv_aload_n C dL_taskByStart_0 rfl (qv_iconst C (v := (0 : Int32)) dL_taskByStart_1 (by decide) (qv_aload_n C dL_taskByStart_2 rfl (qv_iload_n C dL_taskByStart_3 rfl (qh_callV C (rest := [qI (0 : Int32), qR 38 0]) (cb := 0) (sb := 0) (t_X7_taskByStart hl a2 s0) mw_X7_taskByStart lk_L_130 in_X7_taskByStart se_X7_taskByStart rfl (by decide) (by decide) rfl rfl (Nat.le_of_ble_eq_true rfl) (by decide) dL_taskByStart_4 rfl (qkI (fun r1 s1 => (qv_i2l C dL_taskByStart_7 (qv_last! C (x := r1) rfl (by decide) (by decide) (by decide) dL_taskByStart_8 (qv_let (fun s2 => (qv_goto C (tgt := 15) dL_taskByStart_9 (by decide) (qv_iconst C (v := (0 : Int32)) dL_taskByStart_15 (by decide) (qv_iret C hret dL_taskByStart_16))))))))) (fun E s1 => (qVX_if (qVX_catch C ht [] [] (x := (0, 9, 12, 75)) (i := 3) (n := 1) rfl (fun _ h => absurd h List.not_mem_nil) (by decide) (by decide) ckl_75 cast_NSE (Or.inr ⟨_, dL_taskByStart_12, rfl, rfl⟩) (by decide) rfl (qv_iconst C (v := (1 : Int32)) dL_taskByStart_13 (by decide) (qv_iret C hret dL_taskByStart_14))) qVX_no)))))))
def f_L_meanSlack  (s0 : qS) : Option qO :=
  qbind (f_X7_meanSlack  s0) (qvD (fun r1 s1 =>
  qlet (qsd s1 r1) (fun s2 =>
  (some (.inl (some (qI (0 : Int32))), s2))))) (fun E s1 => (if E = qARE then (some (.inl (some (qI (1 : Int32))), s1)) else
  none))
set_option maxRecDepth 100000 in
set_option maxHeartbeats 4000000 in
theorem t_L_meanSlack {g : qG} {l : Launch} (hl : l.stackTraces = false)  (s0 : qS) : qM g l 25 1 6 (.codeWith yL_meanSlack cL_meanSlack 3 (some .int) [(0, 7, 10, 137)]) yL_meanSlack [qR 0 0, qR 39 0] s0 (f_L_meanSlack  s0) := by
  refine qM_ofH (by decide +kernel) hl (List.forall_mem_cons.mpr ⟨rfl, (List.forall_mem_cons.mpr ⟨rfl, (fun _ h => absurd h List.not_mem_nil)⟩)⟩) (Nat.le_of_ble_eq_true rfl) ?_
  intro p e s m args below meth c C hret ht
  show qV p l e _ s m args below meth c g _ _ _ _ _ 0 [some (qR 0 0), some (qR 39 0), none] [] s0
  exact (qv_aload_n C dL_meanSlack_0 rfl (qv_iconst C (v := (0 : Int32)) dL_meanSlack_1 (by decide) (qv_aload_n C dL_meanSlack_2 rfl (qh_callV C (rest := [qI (0 : Int32), qR 39 0]) (cb := 0) (sb := 0) (t_X7_meanSlack hl  s0) mw_X7_meanSlack lk_L_133 in_X7_meanSlack se_X7_meanSlack rfl (by decide) (by decide) rfl rfl (Nat.le_of_ble_eq_true rfl) (by decide) dL_meanSlack_3 rfl (qkD (fun r1 s1 => (qv_dast C dL_meanSlack_6 (qv_let (fun s2 => (qv_goto C (tgt := 13) dL_meanSlack_7 (by decide) (qv_iconst C (v := (0 : Int32)) dL_meanSlack_13 (by decide) (qv_iret C hret dL_meanSlack_14)))))))) (fun E s1 => (qVX_if (qVX_catch C ht [] [] (x := (0, 7, 10, 137)) (i := 2) (n := 1) rfl (fun _ h => absurd h List.not_mem_nil) (by decide) (by decide) ckl_137 cast_ARE (Or.inr ⟨_, dL_meanSlack_10, rfl, rfl⟩) (by decide) rfl (qv_iconst C (v := (1 : Int32)) dL_meanSlack_11 (by decide) (qv_iret C hret dL_meanSlack_12))) qVX_no))))))
def f_L_utilization (a2 : Int32) (s0 : qS) : Option qO :=
  qbind (f_X7_utilization a2 s0) (qvF (fun r1 s1 =>
  (if qn64 (FP.f2d r1) then qlet (qsd s1 (FP.f2d r1)) (fun s2 =>
  (some (.inl (some (qI (0 : Int32))), s2))) else none))) (fun E s1 => (if E = qIAE then (some (.inl (some (qI (1 : Int32))), s1)) else
  (if E = qARE then (some (.inl (some (qI (2 : Int32))), s1)) else
  none)))
set_option maxRecDepth 100000 in
set_option maxHeartbeats 4000000 in
theorem t_L_utilization {g : qG} {l : Launch} (hl : l.stackTraces = false) (a2 : Int32) (s0 : qS) : qM g l 25 2 12 (.codeWith yL_utilization cL_utilization 4 (some .int) [(0, 9, 12, 13), (0, 9, 15, 137)]) yL_utilization [qR 0 0, qI a2, qR 39 0] s0 (f_L_utilization a2 s0) := by
  refine qM_ofH (by decide +kernel) hl (List.forall_mem_cons.mpr ⟨rfl, (List.forall_mem_cons.mpr ⟨rfl, (List.forall_mem_cons.mpr ⟨rfl, (fun _ h => absurd h List.not_mem_nil)⟩)⟩)⟩) (Nat.le_of_ble_eq_true rfl) ?_
  intro p e s m args below meth c C hret ht
  show qV p l e _ s m args below meth c g _ _ _ _ _ 0 [some (qR 0 0), some (qI a2), some (qR 39 0), none] [] s0
  exact (qv_aload_n C dL_utilization_0 rfl (qv_iconst C (v := (0 : Int32)) dL_utilization_1 (by decide) (qv_aload_n C dL_utilization_2 rfl (qv_iload_n C dL_utilization_3 rfl (qh_callV C (rest := [qI (0 : Int32), qR 39 0]) (cb := 0) (sb := 0) (t_X7_utilization hl a2 s0) mw_X7_utilization lk_L_139 in_X7_utilization se_X7_utilization rfl (by decide) (by decide) rfl rfl (Nat.le_of_ble_eq_true rfl) (by decide) dL_utilization_4 rfl (qkF (fun r1 s1 => (qv_f2d C dL_utilization_7 (fun _ => (qv_dast C dL_utilization_8 (qv_let (fun s2 => (qv_goto C (tgt := 18) dL_utilization_9 (by decide) (qv_iconst C (v := (0 : Int32)) dL_utilization_18 (by decide) (qv_iret C hret dL_utilization_19)))))))))) (fun E s1 => (qVX_if (qVX_catch C ht [] [(0, 9, 15, 137)] (x := (0, 9, 12, 13)) (i := 3) (n := 1) rfl (fun _ h => absurd h List.not_mem_nil) (by decide) (by decide) ckl_13 cast_IAE (Or.inr ⟨_, dL_utilization_12, rfl, rfl⟩) (by decide) rfl (qv_iconst C (v := (1 : Int32)) dL_utilization_13 (by decide) (qv_iret C hret dL_utilization_14))) (qVX_if (qVX_catch C ht [(0, 9, 12, 13)] [] (x := (0, 9, 15, 137)) (i := 3) (n := 1) rfl (List.forall_mem_cons.mpr ⟨⟨by decide, _, ckl_13, by decide +kernel⟩, (fun _ h => absurd h List.not_mem_nil)⟩) (by decide) (by decide) ckl_137 cast_ARE (Or.inr ⟨_, dL_utilization_15, rfl, rfl⟩) (by decide) rfl (qv_iconst C (v := (2 : Int32)) dL_utilization_16 (by decide) (qv_iret C hret dL_utilization_17))) qVX_no))))))))
def f_L_renderTask (a2 : Int32) (s0 : qS) : Option qO :=
  qbind (f_X7_renderTask a2 s0) (qvI (fun r1 s1 =>
  qlet (qu s1 38 0 0 r1) (fun s2 =>
  (some (.inl (some (qI (0 : Int32))), s2))))) (fun E s1 => (if E = qIOE then (some (.inl (some (qI (1 : Int32))), s1)) else
  none))
set_option maxRecDepth 100000 in
set_option maxHeartbeats 4000000 in
theorem t_L_renderTask {g : qG} {l : Launch} (hl : l.stackTraces = false) (a2 : Int32) (s0 : qS) : qM g l 25 1 6 (.codeWith yL_renderTask cL_renderTask 4 (some .int) [(0, 9, 12, 21)]) yL_renderTask [qR 0 0, qI a2, qR 38 0] s0 (f_L_renderTask a2 s0) := by
  refine qM_ofH (by decide +kernel) hl (List.forall_mem_cons.mpr ⟨rfl, (List.forall_mem_cons.mpr ⟨rfl, (List.forall_mem_cons.mpr ⟨rfl, (fun _ h => absurd h List.not_mem_nil)⟩)⟩)⟩) (Nat.le_of_ble_eq_true rfl) ?_
  intro p e s m args below meth c C hret ht
  show qV p l e _ s m args below meth c g _ _ _ _ _ 0 [some (qR 0 0), some (qI a2), some (qR 38 0), none] [] s0
  exact (qv_aload_n C dL_renderTask_0 rfl (qv_iconst C (v := (0 : Int32)) dL_renderTask_1 (by decide) (qv_aload_n C dL_renderTask_2 rfl (qv_iload_n C dL_renderTask_3 rfl (qh_callV C (rest := [qI (0 : Int32), qR 38 0]) (cb := 0) (sb := 0) (t_X7_renderTask hl a2 s0) mw_X7_renderTask lk_L_143 in_X7_renderTask se_X7_renderTask rfl (by decide) (by decide) rfl rfl (Nat.le_of_ble_eq_true rfl) (by decide) dL_renderTask_4 rfl (qkI (fun r1 s1 => (qv_i2l C dL_renderTask_7 (qv_last! C (x := r1) rfl (by decide) (by decide) (by decide) dL_renderTask_8 (qv_let (fun s2 => (qv_goto C (tgt := 15) dL_renderTask_9 (by decide) (qv_iconst C (v := (0 : Int32)) dL_renderTask_15 (by decide) (qv_iret C hret dL_renderTask_16))))))))) (fun E s1 => (qVX_if (qVX_catch C ht [] [] (x := (0, 9, 12, 21)) (i := 3) (n := 1) rfl (fun _ h => absurd h List.not_mem_nil) (by decide) (by decide) ckl_21 cast_IOE (Or.inr ⟨_, dL_renderTask_12, rfl, rfl⟩) (by decide) rfl (qv_iconst C (v := (1 : Int32)) dL_renderTask_13 (by decide) (qv_iret C hret dL_renderTask_14))) qVX_no)))))))
def f_L_renderUsage (a2 : Int32) (s0 : qS) : Option qO :=
  qbind (f_X7_renderUsage a2 s0) (qvI (fun r1 s1 =>
  qlet (qu s1 38 0 0 r1) (fun s2 =>
  (some (.inl (some (qI (0 : Int32))), s2))))) (fun E s1 => (if E = qIAE then (some (.inl (some (qI (1 : Int32))), s1)) else
  none))
set_option maxRecDepth 100000 in
set_option maxHeartbeats 4000000 in
theorem t_L_renderUsage {g : qG} {l : Launch} (hl : l.stackTraces = false) (a2 : Int32) (s0 : qS) : qM g l 25 1 6 (.codeWith yL_renderUsage cL_renderUsage 4 (some .int) [(0, 9, 12, 13)]) yL_renderUsage [qR 0 0, qI a2, qR 38 0] s0 (f_L_renderUsage a2 s0) := by
  refine qM_ofH (by decide +kernel) hl (List.forall_mem_cons.mpr ⟨rfl, (List.forall_mem_cons.mpr ⟨rfl, (List.forall_mem_cons.mpr ⟨rfl, (fun _ h => absurd h List.not_mem_nil)⟩)⟩)⟩) (Nat.le_of_ble_eq_true rfl) ?_
  intro p e s m args below meth c C hret ht
  show qV p l e _ s m args below meth c g _ _ _ _ _ 0 [some (qR 0 0), some (qI a2), some (qR 38 0), none] [] s0
  exact (qv_aload_n C dL_renderUsage_0 rfl (qv_iconst C (v := (0 : Int32)) dL_renderUsage_1 (by decide) (qv_aload_n C dL_renderUsage_2 rfl (qv_iload_n C dL_renderUsage_3 rfl (qh_callV C (rest := [qI (0 : Int32), qR 38 0]) (cb := 0) (sb := 0) (t_X7_renderUsage hl a2 s0) mw_X7_renderUsage lk_L_146 in_X7_renderUsage se_X7_renderUsage rfl (by decide) (by decide) rfl rfl (Nat.le_of_ble_eq_true rfl) (by decide) dL_renderUsage_4 rfl (qkI (fun r1 s1 => (qv_i2l C dL_renderUsage_7 (qv_last! C (x := r1) rfl (by decide) (by decide) (by decide) dL_renderUsage_8 (qv_let (fun s2 => (qv_goto C (tgt := 15) dL_renderUsage_9 (by decide) (qv_iconst C (v := (0 : Int32)) dL_renderUsage_15 (by decide) (qv_iret C hret dL_renderUsage_16))))))))) (fun E s1 => (qVX_if (qVX_catch C ht [] [] (x := (0, 9, 12, 13)) (i := 3) (n := 1) rfl (fun _ h => absurd h List.not_mem_nil) (by decide) (by decide) ckl_13 cast_IAE (Or.inr ⟨_, dL_renderUsage_12, rfl, rfl⟩) (by decide) rfl (qv_iconst C (v := (1 : Int32)) dL_renderUsage_13 (by decide) (qv_iret C hret dL_renderUsage_14))) qVX_no)))))))
def f_L_outputAt (a2 : Int32) (s0 : qS) : Option qO :=
  qbind (f_X7_outputAt a2 s0) (qvI (fun r1 s1 =>
  qlet (qu s1 38 0 0 r1) (fun s2 =>
  (some (.inl (some (qI (0 : Int32))), s2))))) (fun E s1 => (if E = qIOE then (some (.inl (some (qI (1 : Int32))), s1)) else
  none))
set_option maxRecDepth 100000 in
set_option maxHeartbeats 4000000 in
theorem t_L_outputAt {g : qG} {l : Launch} (hl : l.stackTraces = false) (a2 : Int32) (s0 : qS) : qM g l 3 1 6 (.codeWith yL_outputAt cL_outputAt 4 (some .int) [(0, 9, 12, 21)]) yL_outputAt [qR 0 0, qI a2, qR 38 0] s0 (f_L_outputAt a2 s0) := by
  refine qM_ofH (by decide +kernel) hl (List.forall_mem_cons.mpr ⟨rfl, (List.forall_mem_cons.mpr ⟨rfl, (List.forall_mem_cons.mpr ⟨rfl, (fun _ h => absurd h List.not_mem_nil)⟩)⟩)⟩) (Nat.le_of_ble_eq_true rfl) ?_
  intro p e s m args below meth c C hret ht
  show qV p l e _ s m args below meth c g _ _ _ _ _ 0 [some (qR 0 0), some (qI a2), some (qR 38 0), none] [] s0
  exact (qv_aload_n C dL_outputAt_0 rfl (qv_iconst C (v := (0 : Int32)) dL_outputAt_1 (by decide) (qv_aload_n C dL_outputAt_2 rfl (qv_iload_n C dL_outputAt_3 rfl (qh_callV C (rest := [qI (0 : Int32), qR 38 0]) (cb := 0) (sb := 0) (t_X7_outputAt hl a2 s0) mw_X7_outputAt lk_L_149 in_X7_outputAt se_X7_outputAt rfl (by decide) (by decide) rfl rfl (Nat.le_of_ble_eq_true rfl) (by decide) dL_outputAt_4 rfl (qkI (fun r1 s1 => (qv_i2l C dL_outputAt_7 (qv_last! C (x := r1) rfl (by decide) (by decide) (by decide) dL_outputAt_8 (qv_let (fun s2 => (qv_goto C (tgt := 15) dL_outputAt_9 (by decide) (qv_iconst C (v := (0 : Int32)) dL_outputAt_15 (by decide) (qv_iret C hret dL_outputAt_16))))))))) (fun E s1 => (qVX_if (qVX_catch C ht [] [] (x := (0, 9, 12, 21)) (i := 3) (n := 1) rfl (fun _ h => absurd h List.not_mem_nil) (by decide) (by decide) ckl_21 cast_IOE (Or.inr ⟨_, dL_outputAt_12, rfl, rfl⟩) (by decide) rfl (qv_iconst C (v := (1 : Int32)) dL_outputAt_13 (by decide) (qv_iret C hret dL_outputAt_14))) qVX_no)))))))
def f_L_type (a2 : Int32) (s0 : qS) : Option qO :=
  qbind (f_X7_type a2 s0) (qvI (fun r1 s1 =>
  qlet (qu s1 38 0 0 r1) (fun s2 =>
  (some (.inl (some (qI (0 : Int32))), s2))))) (fun E s1 => (if E = qIAE then (some (.inl (some (qI (1 : Int32))), s1)) else
  (if E = qISE then (some (.inl (some (qI (2 : Int32))), s1)) else
  none)))
set_option maxRecDepth 100000 in
set_option maxHeartbeats 4000000 in
theorem t_L_type {g : qG} {l : Launch} (hl : l.stackTraces = false) (a2 : Int32) (s0 : qS) : qM g l 3 1 6 (.codeWith yL_type cL_type 4 (some .int) [(0, 9, 12, 13), (0, 9, 15, 15)]) yL_type [qR 0 0, qI a2, qR 38 0] s0 (f_L_type a2 s0) := by
  refine qM_ofH (by decide +kernel) hl (List.forall_mem_cons.mpr ⟨rfl, (List.forall_mem_cons.mpr ⟨rfl, (List.forall_mem_cons.mpr ⟨rfl, (fun _ h => absurd h List.not_mem_nil)⟩)⟩)⟩) (Nat.le_of_ble_eq_true rfl) ?_
  intro p e s m args below meth c C hret ht
  show qV p l e _ s m args below meth c g _ _ _ _ _ 0 [some (qR 0 0), some (qI a2), some (qR 38 0), none] [] s0
  exact (qv_aload_n C dL_type_0 rfl (qv_iconst C (v := (0 : Int32)) dL_type_1 (by decide) (qv_aload_n C dL_type_2 rfl (qv_iload_n C dL_type_3 rfl (qh_callV C (rest := [qI (0 : Int32), qR 38 0]) (cb := 0) (sb := 0) (t_X7_type hl a2 s0) mw_X7_type lk_L_153 in_X7_type se_X7_type rfl (by decide) (by decide) rfl rfl (Nat.le_of_ble_eq_true rfl) (by decide) dL_type_4 rfl (qkI (fun r1 s1 => (qv_i2l C dL_type_7 (qv_last! C (x := r1) rfl (by decide) (by decide) (by decide) dL_type_8 (qv_let (fun s2 => (qv_goto C (tgt := 18) dL_type_9 (by decide) (qv_iconst C (v := (0 : Int32)) dL_type_18 (by decide) (qv_iret C hret dL_type_19))))))))) (fun E s1 => (qVX_if (qVX_catch C ht [] [(0, 9, 15, 15)] (x := (0, 9, 12, 13)) (i := 3) (n := 1) rfl (fun _ h => absurd h List.not_mem_nil) (by decide) (by decide) ckl_13 cast_IAE (Or.inr ⟨_, dL_type_12, rfl, rfl⟩) (by decide) rfl (qv_iconst C (v := (1 : Int32)) dL_type_13 (by decide) (qv_iret C hret dL_type_14))) (qVX_if (qVX_catch C ht [(0, 9, 12, 13)] [] (x := (0, 9, 15, 15)) (i := 3) (n := 1) rfl (List.forall_mem_cons.mpr ⟨⟨by decide, _, ckl_13, by decide +kernel⟩, (fun _ h => absurd h List.not_mem_nil)⟩) (by decide) (by decide) ckl_15 cast_ISE (Or.inr ⟨_, dL_type_15, rfl, rfl⟩) (by decide) rfl (qv_iconst C (v := (2 : Int32)) dL_type_16 (by decide) (qv_iret C hret dL_type_17))) qVX_no))))))))
def f_L_runScript  (s0 : qS) : Option qO :=
  qbind (f_X7_runScript  s0) (qvI (fun r1 s1 =>
  qlet (qu s1 38 0 0 r1) (fun s2 =>
  (some (.inl (some (qI (0 : Int32))), s2))))) (fun E s1 => (if E = qIAE then (some (.inl (some (qI (1 : Int32))), s1)) else
  (if E = qISE then (some (.inl (some (qI (2 : Int32))), s1)) else
  none)))
set_option maxRecDepth 100000 in
set_option maxHeartbeats 4000000 in
theorem t_L_runScript {g : qG} {l : Launch} (hl : l.stackTraces = false)  (s0 : qS) : qM g l 26 1 6 (.codeWith yL_runScript cL_runScript 3 (some .int) [(0, 8, 11, 13), (0, 8, 14, 15)]) yL_runScript [qR 0 0, qR 38 0] s0 (f_L_runScript  s0) := by
  refine qM_ofH (by decide +kernel) hl (List.forall_mem_cons.mpr ⟨rfl, (List.forall_mem_cons.mpr ⟨rfl, (fun _ h => absurd h List.not_mem_nil)⟩)⟩) (Nat.le_of_ble_eq_true rfl) ?_
  intro p e s m args below meth c C hret ht
  show qV p l e _ s m args below meth c g _ _ _ _ _ 0 [some (qR 0 0), some (qR 38 0), none] [] s0
  exact (qv_aload_n C dL_runScript_0 rfl (qv_iconst C (v := (0 : Int32)) dL_runScript_1 (by decide) (qv_aload_n C dL_runScript_2 rfl (qh_callV C (rest := [qI (0 : Int32), qR 38 0]) (cb := 0) (sb := 0) (t_X7_runScript hl  s0) mw_X7_runScript lk_L_157 in_X7_runScript se_X7_runScript rfl (by decide) (by decide) rfl rfl (Nat.le_of_ble_eq_true rfl) (by decide) dL_runScript_3 rfl (qkI (fun r1 s1 => (qv_i2l C dL_runScript_6 (qv_last! C (x := r1) rfl (by decide) (by decide) (by decide) dL_runScript_7 (qv_let (fun s2 => (qv_goto C (tgt := 17) dL_runScript_8 (by decide) (qv_iconst C (v := (0 : Int32)) dL_runScript_17 (by decide) (qv_iret C hret dL_runScript_18))))))))) (fun E s1 => (qVX_if (qVX_catch C ht [] [(0, 8, 14, 15)] (x := (0, 8, 11, 13)) (i := 2) (n := 1) rfl (fun _ h => absurd h List.not_mem_nil) (by decide) (by decide) ckl_13 cast_IAE (Or.inr ⟨_, dL_runScript_11, rfl, rfl⟩) (by decide) rfl (qv_iconst C (v := (1 : Int32)) dL_runScript_12 (by decide) (qv_iret C hret dL_runScript_13))) (qVX_if (qVX_catch C ht [(0, 8, 11, 13)] [] (x := (0, 8, 14, 15)) (i := 2) (n := 1) rfl (List.forall_mem_cons.mpr ⟨⟨by decide, _, ckl_13, by decide +kernel⟩, (fun _ h => absurd h List.not_mem_nil)⟩) (by decide) (by decide) ckl_15 cast_ISE (Or.inr ⟨_, dL_runScript_14, rfl, rfl⟩) (by decide) rfl (qv_iconst C (v := (2 : Int32)) dL_runScript_15 (by decide) (qv_iret C hret dL_runScript_16))) qVX_no)))))))
def f_L_errorPosition  (s0 : qS) : Option qO :=
  qbind (f_X7_errorPosition  s0) (qvI (fun r1 s1 =>
  qlet (qu s1 38 0 0 r1) (fun s2 =>
  (some (.inl (some (qI (0 : Int32))), s2))))) (fun E s1 => (if E = qNSE then (some (.inl (some (qI (1 : Int32))), s1)) else
  none))
set_option maxRecDepth 100000 in
set_option maxHeartbeats 4000000 in
theorem t_L_errorPosition {g : qG} {l : Launch} (hl : l.stackTraces = false)  (s0 : qS) : qM g l 2 1 6 (.codeWith yL_errorPosition cL_errorPosition 3 (some .int) [(0, 8, 11, 75)]) yL_errorPosition [qR 0 0, qR 38 0] s0 (f_L_errorPosition  s0) := by
  refine qM_ofH (by decide +kernel) hl (List.forall_mem_cons.mpr ⟨rfl, (List.forall_mem_cons.mpr ⟨rfl, (fun _ h => absurd h List.not_mem_nil)⟩)⟩) (Nat.le_of_ble_eq_true rfl) ?_
  intro p e s m args below meth c C hret ht
  show qV p l e _ s m args below meth c g _ _ _ _ _ 0 [some (qR 0 0), some (qR 38 0), none] [] s0
  exact (qv_aload_n C dL_errorPosition_0 rfl (qv_iconst C (v := (0 : Int32)) dL_errorPosition_1 (by decide) (qv_aload_n C dL_errorPosition_2 rfl (qh_callV C (rest := [qI (0 : Int32), qR 38 0]) (cb := 0) (sb := 0) (t_X7_errorPosition hl  s0) mw_X7_errorPosition lk_L_160 in_X7_errorPosition se_X7_errorPosition rfl (by decide) (by decide) rfl rfl (Nat.le_of_ble_eq_true rfl) (by decide) dL_errorPosition_3 rfl (qkI (fun r1 s1 => (qv_i2l C dL_errorPosition_6 (qv_last! C (x := r1) rfl (by decide) (by decide) (by decide) dL_errorPosition_7 (qv_let (fun s2 => (qv_goto C (tgt := 14) dL_errorPosition_8 (by decide) (qv_iconst C (v := (0 : Int32)) dL_errorPosition_14 (by decide) (qv_iret C hret dL_errorPosition_15))))))))) (fun E s1 => (qVX_if (qVX_catch C ht [] [] (x := (0, 8, 11, 75)) (i := 2) (n := 1) rfl (fun _ h => absurd h List.not_mem_nil) (by decide) (by decide) ckl_75 cast_NSE (Or.inr ⟨_, dL_errorPosition_11, rfl, rfl⟩) (by decide) rfl (qv_iconst C (v := (1 : Int32)) dL_errorPosition_12 (by decide) (qv_iret C hret dL_errorPosition_13))) qVX_no))))))
def f_L_failedCommand  (s0 : qS) : Option qO :=
  qbind (f_X7_failedCommand  s0) (qvI (fun r1 s1 =>
  qlet (qu s1 38 0 0 r1) (fun s2 =>
  (some (.inl (some (qI (0 : Int32))), s2))))) (fun E s1 => (if E = qNSE then (some (.inl (some (qI (1 : Int32))), s1)) else
  none))
set_option maxRecDepth 100000 in
set_option maxHeartbeats 4000000 in
theorem t_L_failedCommand {g : qG} {l : Launch} (hl : l.stackTraces = false)  (s0 : qS) : qM g l 3 1 6 (.codeWith yL_failedCommand cL_failedCommand 3 (some .int) [(0, 8, 11, 75)]) yL_failedCommand [qR 0 0, qR 38 0] s0 (f_L_failedCommand  s0) := by
  refine qM_ofH (by decide +kernel) hl (List.forall_mem_cons.mpr ⟨rfl, (List.forall_mem_cons.mpr ⟨rfl, (fun _ h => absurd h List.not_mem_nil)⟩)⟩) (Nat.le_of_ble_eq_true rfl) ?_
  intro p e s m args below meth c C hret ht
  show qV p l e _ s m args below meth c g _ _ _ _ _ 0 [some (qR 0 0), some (qR 38 0), none] [] s0
  exact (qv_aload_n C dL_failedCommand_0 rfl (qv_iconst C (v := (0 : Int32)) dL_failedCommand_1 (by decide) (qv_aload_n C dL_failedCommand_2 rfl (qh_callV C (rest := [qI (0 : Int32), qR 38 0]) (cb := 0) (sb := 0) (t_X7_failedCommand hl  s0) mw_X7_failedCommand lk_L_163 in_X7_failedCommand se_X7_failedCommand rfl (by decide) (by decide) rfl rfl (Nat.le_of_ble_eq_true rfl) (by decide) dL_failedCommand_3 rfl (qkI (fun r1 s1 => (qv_i2l C dL_failedCommand_6 (qv_last! C (x := r1) rfl (by decide) (by decide) (by decide) dL_failedCommand_7 (qv_let (fun s2 => (qv_goto C (tgt := 14) dL_failedCommand_8 (by decide) (qv_iconst C (v := (0 : Int32)) dL_failedCommand_14 (by decide) (qv_iret C hret dL_failedCommand_15))))))))) (fun E s1 => (qVX_if (qVX_catch C ht [] [] (x := (0, 8, 11, 75)) (i := 2) (n := 1) rfl (fun _ h => absurd h List.not_mem_nil) (by decide) (by decide) ckl_75 cast_NSE (Or.inr ⟨_, dL_failedCommand_11, rfl, rfl⟩) (by decide) rfl (qv_iconst C (v := (1 : Int32)) dL_failedCommand_12 (by decide) (qv_iret C hret dL_failedCommand_13))) qVX_no))))))
def f_L_failureReason  (s0 : qS) : Option qO :=
  qbind (f_X7_failureReason  s0) (qvI (fun r1 s1 =>
  qlet (qu s1 38 0 0 r1) (fun s2 =>
  (some (.inl (some (qI (0 : Int32))), s2))))) (fun E s1 => (if E = qNSE then (some (.inl (some (qI (1 : Int32))), s1)) else
  none))
set_option maxRecDepth 100000 in
set_option maxHeartbeats 4000000 in
theorem t_L_failureReason {g : qG} {l : Launch} (hl : l.stackTraces = false)  (s0 : qS) : qM g l 3 1 6 (.codeWith yL_failureReason cL_failureReason 3 (some .int) [(0, 8, 11, 75)]) yL_failureReason [qR 0 0, qR 38 0] s0 (f_L_failureReason  s0) := by
  refine qM_ofH (by decide +kernel) hl (List.forall_mem_cons.mpr ⟨rfl, (List.forall_mem_cons.mpr ⟨rfl, (fun _ h => absurd h List.not_mem_nil)⟩)⟩) (Nat.le_of_ble_eq_true rfl) ?_
  intro p e s m args below meth c C hret ht
  show qV p l e _ s m args below meth c g _ _ _ _ _ 0 [some (qR 0 0), some (qR 38 0), none] [] s0
  exact (qv_aload_n C dL_failureReason_0 rfl (qv_iconst C (v := (0 : Int32)) dL_failureReason_1 (by decide) (qv_aload_n C dL_failureReason_2 rfl (qh_callV C (rest := [qI (0 : Int32), qR 38 0]) (cb := 0) (sb := 0) (t_X7_failureReason hl  s0) mw_X7_failureReason lk_L_166 in_X7_failureReason se_X7_failureReason rfl (by decide) (by decide) rfl rfl (Nat.le_of_ble_eq_true rfl) (by decide) dL_failureReason_3 rfl (qkI (fun r1 s1 => (qv_i2l C dL_failureReason_6 (qv_last! C (x := r1) rfl (by decide) (by decide) (by decide) dL_failureReason_7 (qv_let (fun s2 => (qv_goto C (tgt := 14) dL_failureReason_8 (by decide) (qv_iconst C (v := (0 : Int32)) dL_failureReason_14 (by decide) (qv_iret C hret dL_failureReason_15))))))))) (fun E s1 => (qVX_if (qVX_catch C ht [] [] (x := (0, 8, 11, 75)) (i := 2) (n := 1) rfl (fun _ h => absurd h List.not_mem_nil) (by decide) (by decide) ckl_75 cast_NSE (Or.inr ⟨_, dL_failureReason_11, rfl, rfl⟩) (by decide) rfl (qv_iconst C (v := (1 : Int32)) dL_failureReason_12 (by decide) (qv_iret C hret dL_failureReason_13))) qVX_no))))))
def f_L_undo  (s0 : qS) : Option qO :=
  qbind (f_X7_undo  s0) (qvI (fun r1 s1 =>
  qlet (qu s1 38 0 0 r1) (fun s2 =>
  (some (.inl (some (qI (0 : Int32))), s2))))) (fun E s1 => (if E = qISE then (some (.inl (some (qI (1 : Int32))), s1)) else
  none))
set_option maxRecDepth 100000 in
set_option maxHeartbeats 4000000 in
theorem t_L_undo {g : qG} {l : Launch} (hl : l.stackTraces = false)  (s0 : qS) : qM g l 5 1 6 (.codeWith yL_undo cL_undo 3 (some .int) [(0, 8, 11, 15)]) yL_undo [qR 0 0, qR 38 0] s0 (f_L_undo  s0) := by
  refine qM_ofH (by decide +kernel) hl (List.forall_mem_cons.mpr ⟨rfl, (List.forall_mem_cons.mpr ⟨rfl, (fun _ h => absurd h List.not_mem_nil)⟩)⟩) (Nat.le_of_ble_eq_true rfl) ?_
  intro p e s m args below meth c C hret ht
  show qV p l e _ s m args below meth c g _ _ _ _ _ 0 [some (qR 0 0), some (qR 38 0), none] [] s0
  exact (qv_aload_n C dL_undo_0 rfl (qv_iconst C (v := (0 : Int32)) dL_undo_1 (by decide) (qv_aload_n C dL_undo_2 rfl (qh_callV C (rest := [qI (0 : Int32), qR 38 0]) (cb := 0) (sb := 0) (t_X7_undo hl  s0) mw_X7_undo lk_L_170 in_X7_undo se_X7_undo rfl (by decide) (by decide) rfl rfl (Nat.le_of_ble_eq_true rfl) (by decide) dL_undo_3 rfl (qkI (fun r1 s1 => (qv_i2l C dL_undo_6 (qv_last! C (x := r1) rfl (by decide) (by decide) (by decide) dL_undo_7 (qv_let (fun s2 => (qv_goto C (tgt := 14) dL_undo_8 (by decide) (qv_iconst C (v := (0 : Int32)) dL_undo_14 (by decide) (qv_iret C hret dL_undo_15))))))))) (fun E s1 => (qVX_if (qVX_catch C ht [] [] (x := (0, 8, 11, 15)) (i := 2) (n := 1) rfl (fun _ h => absurd h List.not_mem_nil) (by decide) (by decide) ckl_15 cast_ISE (Or.inr ⟨_, dL_undo_11, rfl, rfl⟩) (by decide) rfl (qv_iconst C (v := (1 : Int32)) dL_undo_12 (by decide) (qv_iret C hret dL_undo_13))) qVX_no))))))
def f_L_restore  (s0 : qS) : Option qO :=
  qbind (f_X7_restore  s0) (qvI (fun r1 s1 =>
  qlet (qu s1 38 0 0 r1) (fun s2 =>
  (some (.inl (some (qI (0 : Int32))), s2))))) (fun E s1 => (if E = qISE then (some (.inl (some (qI (1 : Int32))), s1)) else
  none))
set_option maxRecDepth 100000 in
set_option maxHeartbeats 4000000 in
theorem t_L_restore {g : qG} {l : Launch} (hl : l.stackTraces = false)  (s0 : qS) : qM g l 4 1 6 (.codeWith yL_restore cL_restore 3 (some .int) [(0, 8, 11, 15)]) yL_restore [qR 0 0, qR 38 0] s0 (f_L_restore  s0) := by
  refine qM_ofH (by decide +kernel) hl (List.forall_mem_cons.mpr ⟨rfl, (List.forall_mem_cons.mpr ⟨rfl, (fun _ h => absurd h List.not_mem_nil)⟩)⟩) (Nat.le_of_ble_eq_true rfl) ?_
  intro p e s m args below meth c C hret ht
  show qV p l e _ s m args below meth c g _ _ _ _ _ 0 [some (qR 0 0), some (qR 38 0), none] [] s0
  exact (qv_aload_n C dL_restore_0 rfl (qv_iconst C (v := (0 : Int32)) dL_restore_1 (by decide) (qv_aload_n C dL_restore_2 rfl (qh_callV C (rest := [qI (0 : Int32), qR 38 0]) (cb := 0) (sb := 0) (t_X7_restore hl  s0) mw_X7_restore lk_L_173 in_X7_restore se_X7_restore rfl (by decide) (by decide) rfl rfl (Nat.le_of_ble_eq_true rfl) (by decide) dL_restore_3 rfl (qkI (fun r1 s1 => (qv_i2l C dL_restore_6 (qv_last! C (x := r1) rfl (by decide) (by decide) (by decide) dL_restore_7 (qv_let (fun s2 => (qv_goto C (tgt := 14) dL_restore_8 (by decide) (qv_iconst C (v := (0 : Int32)) dL_restore_14 (by decide) (qv_iret C hret dL_restore_15))))))))) (fun E s1 => (qVX_if (qVX_catch C ht [] [] (x := (0, 8, 11, 15)) (i := 2) (n := 1) rfl (fun _ h => absurd h List.not_mem_nil) (by decide) (by decide) ckl_15 cast_ISE (Or.inr ⟨_, dL_restore_11, rfl, rfl⟩) (by decide) rfl (qv_iconst C (v := (1 : Int32)) dL_restore_12 (by decide) (qv_iret C hret dL_restore_13))) qVX_no))))))
