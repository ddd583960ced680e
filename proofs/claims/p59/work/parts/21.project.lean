/-! Project (printed by wip/whole/gen) -/
def f_X5_faultOfTask (j0 : Nat) (a1 : Int32) (s0 : qS) : Option qO :=
  qbind (f_X7_isWithin a1 (0 : Int32) ((s0 1 j0 7) - (1 : Int32)) s0) (qvI (fun r1 s1 =>
  (if r1 = 0 then (some (.inl (some (qI (105 : Int32))), s1)) else
  (some (.inl (some (qI (46 : Int32))), s1))))) qE0
set_option maxRecDepth 100000 in
set_option maxHeartbeats 4000000 in
theorem t_X5_faultOfTask {g : qG} {l : Launch} (hl : l.stackTraces = false) {j0 : Nat} (hj0 : j0 < 11) (a1 : Int32) (s0 : qS) : qM g l 2 0 0 (.code yX5_faultOfTask cX5_faultOfTask 2 (some .char)) yX5_faultOfTask [qR 1 j0, qI a1] s0 (f_X5_faultOfTask j0 a1 s0) := by
  refine qM_of (by decide +kernel) hl (List.forall_mem_cons.mpr ⟨rfl, (List.forall_mem_cons.mpr ⟨rfl, (fun _ h => absurd h List.not_mem_nil)⟩)⟩) (Nat.le_of_ble_eq_true rfl) ?_
  intro p e s m args below meth c C hret ht
  show qV p l e _ s m args below meth c g _ _ _ _ _ 0 [some (qR 1 j0), some (qI a1)] [] s0
  exact (qv_iload_n C dX5_faultOfTask_0 rfl (qv_iconst C (v := (0 : Int32)) dX5_faultOfTask_1 (by decide) (qv_aload_n C dX5_faultOfTask_2 rfl (qv_getI C fl_X5_41 cl_X5 rfl (by decide) (by decide) hj0 rfl dX5_faultOfTask_3 (qv_iconst C (v := (1 : Int32)) dX5_faultOfTask_6 (by decide) (qv_isub C dX5_faultOfTask_7 (qv_callSN C (rest := []) (cb := 0) (sb := 0) (t_X7_isWithin hl a1 (0 : Int32) ((s0 1 j0 7) - (1 : Int32)) s0) mw_X7_isWithin lk_X5_49 st_X7_isWithin rfl (Nat.le_of_ble_eq_true rfl) (by decide) dX5_faultOfTask_8 rfl (qkI (fun r1 s1 => (qv_if_eq C (tgt := 19) dX5_faultOfTask_11 (by decide) (fun _ => (qv_bipush C (v := (105 : Int32)) dX5_faultOfTask_19 (by decide) (qv_zret! C hret (qch_nar (by decide)) dX5_faultOfTask_21)))
  (fun _ => (qv_bipush C (v := (46 : Int32)) dX5_faultOfTask_14 (by decide) (qv_goto C (tgt := 21) dX5_faultOfTask_16 (by decide) (qv_zret! C hret (qch_nar (by decide)) dX5_faultOfTask_21))))))))))))))
def f_X5_faultOfPair (j0 : Nat) (a1 : Int32) (a2 : Int32) (s0 : qS) : Option qO :=
  qbind (f_X5_faultOfTask j0 a1 s0) (qvI (fun r1 s1 =>
  (if r1 = (46 : Int32) then qbind (f_X5_faultOfTask j0 a2 s1) (qvI (fun r2 s2 =>
  (if qch r2 then some (.inl (some (qI r2)), s2) else none))) qE0 else
  (some (.inl (some (qI (105 : Int32))), s1))))) qE0
set_option maxRecDepth 100000 in
set_option maxHeartbeats 4000000 in
theorem t_X5_faultOfPair {g : qG} {l : Launch} (hl : l.stackTraces = false) {j0 : Nat} (hj0 : j0 < 11) (a1 : Int32) (a2 : Int32) (s0 : qS) : qM g l 3 0 0 (.code yX5_faultOfPair cX5_faultOfPair 3 (some .char)) yX5_faultOfPair [qR 1 j0, qI a1, qI a2] s0 (f_X5_faultOfPair j0 a1 a2 s0) := by
  refine qM_of (by decide +kernel) hl (List.forall_mem_cons.mpr ⟨rfl, (List.forall_mem_cons.mpr ⟨rfl, (List.forall_mem_cons.mpr ⟨rfl, (fun _ h => absurd h List.not_mem_nil)⟩)⟩)⟩) (Nat.le_of_ble_eq_true rfl) ?_
  intro p e s m args below meth c C hret ht
  show qV p l e _ s m args below meth c g _ _ _ _ _ 0 [some (qR 1 j0), some (qI a1), some (qI a2)] [] s0
  exact (qv_aload_n C dX5_faultOfPair_0 rfl (qv_iload_n C dX5_faultOfPair_1 rfl (qv_callV C (rest := []) (cb := 0) (sb := 0) (t_X5_faultOfTask hl (show j0 < 11 from hj0) a1 s0) mw_X5_faultOfTask lk_X5_53 in_X5_faultOfTask se_X5_faultOfTask rfl (by decide) hj0 rfl rfl (Nat.le_of_ble_eq_true rfl) (by decide) dX5_faultOfPair_2 rfl (qkI (fun r1 s1 => (qv_bipush C (v := (46 : Int32)) dX5_faultOfPair_5 (by decide) (qv_icmp_ne C (tgt := 18) dX5_faultOfPair_7 (by decide) (fun _ => (qv_aload_n C dX5_faultOfPair_10 rfl (qv_iload_n C dX5_faultOfPair_11 rfl (qv_callV C (rest := []) (cb := 0) (sb := 0) (t_X5_faultOfTask hl (show j0 < 11 from hj0) a2 s1) mw_X5_faultOfTask lk_X5_53 in_X5_faultOfTask se_X5_faultOfTask rfl (by decide) hj0 rfl rfl (Nat.le_of_ble_eq_true rfl) (by decide) dX5_faultOfPair_12 rfl (qkI (fun r2 s2 => (qv_goto C (tgt := 20) dX5_faultOfPair_15 (by decide) (qv_cret C hret dX5_faultOfPair_20))))))))
  (fun _ => (qv_bipush C (v := (105 : Int32)) dX5_faultOfPair_18 (by decide) (qv_zret! C hret (qch_nar (by decide)) dX5_faultOfPair_20))))))))))
def j_X5_faultOfAdding_43 (j0 : Nat) (s0 : qS) : Option qO :=
  (if (0 : Int32) = 0 then (some (.inl (some (qI (97 : Int32))), s0)) else
  (if (12 : Int32) ≤ (s0 1 j0 7) then (some (.inl (some (qI (115 : Int32))), s0)) else
  (some (.inl (some (qI (46 : Int32))), s0))))
set_option maxRecDepth 100000 in
set_option maxHeartbeats 4000000 in
theorem jt_X5_faultOfAdding_43 {p : Program} {l : Launch} {e : Env} {s : State} {m : MethodId} {args : Array Value} {below : List Frame} {meth : Method} {c : Code} {g : qG} (hl : l.stackTraces = false) (C : qC p l s m meth c cX5_faultOfAdding 6 RX5 g) (hret : meth.sig.returnType = (some .char)) (ht : ∀ x ∈ c.exceptionTable.toList, False) {j0 : Nat} (hj0 : j0 < 11) (s0 : qS) : qV p l e (qrm 2 0 0) s m args below meth c g 6 (qQf g below args s (qrm 2 0 0)) (j_X5_faultOfAdding_43 j0  s0) 0 0 43 [some (qR 1 j0), none, none, none, none, none] [] s0 :=
  (qv_iconst C (v := (0 : Int32)) dX5_faultOfAdding_43 (by decide) (qv_istore C dX5_faultOfAdding_44 (by decide) rfl (qv_iload C dX5_faultOfAdding_46 rfl (qv_if_ne C (tgt := 54) dX5_faultOfAdding_48 (by decide) (fun _ => (qv_bipush C (v := (97 : Int32)) dX5_faultOfAdding_51 (by decide) (qv_zret! C hret (qch_nar (by decide)) dX5_faultOfAdding_53)))
  (fun _ => (qv_aload_n C dX5_faultOfAdding_54 rfl (qv_getI C fl_X5_41 cl_X5 rfl (by decide) (by decide) hj0 rfl dX5_faultOfAdding_55 (qv_bipush C (v := (12 : Int32)) dX5_faultOfAdding_58 (by decide) (qv_icmp_ge C (tgt := 68) dX5_faultOfAdding_60 (by decide) (fun _ => (qv_bipush C (v := (115 : Int32)) dX5_faultOfAdding_68 (by decide) (qv_zret! C hret (qch_nar (by decide)) dX5_faultOfAdding_70)))
  (fun _ => (qv_bipush C (v := (46 : Int32)) dX5_faultOfAdding_63 (by decide) (qv_goto C (tgt := 70) dX5_faultOfAdding_65 (by decide) (qv_zret! C hret (qch_nar (by decide)) dX5_faultOfAdding_70)))))))))))))
def f_X5_faultOfAdding (j0 : Nat) (a1 : Int32) (a2 : Int32) (a3 : Int32) (a4 : Int32) (s0 : qS) : Option qO :=
  qbind (f_X7_isWithin a1 (1 : Int32) (9 : Int32) s0) (qvI (fun r1 s1 =>
  (if r1 = 0 then j_X5_faultOfAdding_43 j0  s1 else
  qbind (f_X7_isWithin a2 (0 : Int32) (2 : Int32) s1) (qvI (fun r2 s2 =>
  (if r2 = 0 then j_X5_faultOfAdding_43 j0  s2 else
  qbind (f_X7_isWithin a3 (1 : Int32) (5 : Int32) s2) (qvI (fun r3 s3 =>
  (if r3 = 0 then j_X5_faultOfAdding_43 j0  s3 else
  qbind (f_X7_isWithin a4 (0 : Int32) (30 : Int32) s3) (qvI (fun r4 s4 =>
  (if r4 = 0 then j_X5_faultOfAdding_43 j0  s4 else
  (if (1 : Int32) = 0 then (some (.inl (some (qI (97 : Int32))), s4)) else
  (if (12 : Int32) ≤ (s4 1 j0 7) then (some (.inl (some (qI (115 : Int32))), s4)) else
  (some (.inl (some (qI (46 : Int32))), s4))))))) qE0))) qE0))) qE0))) qE0
set_option maxRecDepth 100000 in
set_option maxHeartbeats 4000000 in
theorem t_X5_faultOfAdding {g : qG} {l : Launch} (hl : l.stackTraces = false) {j0 : Nat} (hj0 : j0 < 11) (a1 : Int32) (a2 : Int32) (a3 : Int32) (a4 : Int32) (s0 : qS) : qM g l 2 0 0 (.code yX5_faultOfAdding cX5_faultOfAdding 6 (some .char)) yX5_faultOfAdding [qR 1 j0, qI a1, qI a2, qI a3, qI a4] s0 (f_X5_faultOfAdding j0 a1 a2 a3 a4 s0) := by
  refine qM_of (by decide +kernel) hl (List.forall_mem_cons.mpr ⟨rfl, (List.forall_mem_cons.mpr ⟨rfl, (List.forall_mem_cons.mpr ⟨rfl, (List.forall_mem_cons.mpr ⟨rfl, (List.forall_mem_cons.mpr ⟨rfl, (fun _ h => absurd h List.not_mem_nil)⟩)⟩)⟩)⟩)⟩) (Nat.le_of_ble_eq_true rfl) ?_
  intro p e s m args below meth c C hret ht
  show qV p l e _ s m args below meth c g _ _ _ _ _ 0 [some (qR 1 j0), some (qI a1), some (qI a2), some (qI a3), some (qI a4), none] [] s0
  exact (qv_iload_n C dX5_faultOfAdding_0 rfl (qv_iconst C (v := (1 : Int32)) dX5_faultOfAdding_1 (by decide) (qv_bipush C (v := (9 : Int32)) dX5_faultOfAdding_2 (by decide) (qv_callSN C (rest := []) (cb := 0) (sb := 0) (t_X7_isWithin hl a1 (1 : Int32) (9 : Int32) s0) mw_X7_isWithin lk_X5_49 st_X7_isWithin rfl (Nat.le_of_ble_eq_true rfl) (by decide) dX5_faultOfAdding_4 rfl (qkI (fun r1 s1 => (qv_if_eq C (tgt := 43) dX5_faultOfAdding_7 (by decide) (fun _ => (qV.weak [true, false, false, false, false, false] (jt_X5_faultOfAdding_43 hl C hret ht hj0  s1)))
  (fun _ => (qv_iload_n C dX5_faultOfAdding_10 rfl (qv_iconst C (v := (0 : Int32)) dX5_faultOfAdding_11 (by decide) (qv_iconst C (v := (2 : Int32)) dX5_faultOfAdding_12 (by decide) (qv_callSN C (rest := []) (cb := 0) (sb := 0) (t_X7_isWithin hl a2 (0 : Int32) (2 : Int32) s1) mw_X7_isWithin lk_X5_49 st_X7_isWithin rfl (Nat.le_of_ble_eq_true rfl) (by decide) dX5_faultOfAdding_13 rfl (qkI (fun r2 s2 => (qv_if_eq C (tgt := 43) dX5_faultOfAdding_16 (by decide) (fun _ => (qV.weak [true, false, false, false, false, false] (jt_X5_faultOfAdding_43 hl C hret ht hj0  s2)))
  (fun _ => (qv_iload_n C dX5_faultOfAdding_19 rfl (qv_iconst C (v := (1 : Int32)) dX5_faultOfAdding_20 (by decide) (qv_iconst C (v := (5 : Int32)) dX5_faultOfAdding_21 (by decide) (qv_callSN C (rest := []) (cb := 0) (sb := 0) (t_X7_isWithin hl a3 (1 : Int32) (5 : Int32) s2) mw_X7_isWithin lk_X5_49 st_X7_isWithin rfl (Nat.le_of_ble_eq_true rfl) (by decide) dX5_faultOfAdding_22 rfl (qkI (fun r3 s3 => (qv_if_eq C (tgt := 43) dX5_faultOfAdding_25 (by decide) (fun _ => (qV.weak [true, false, false, false, false, false] (jt_X5_faultOfAdding_43 hl C hret ht hj0  s3)))
  (fun _ => (qv_iload C dX5_faultOfAdding_28 rfl (qv_iconst C (v := (0 : Int32)) dX5_faultOfAdding_30 (by decide) (qv_bipush C (v := (30 : Int32)) dX5_faultOfAdding_31 (by decide) (qv_callSN C (rest := []) (cb := 0) (sb := 0) (t_X7_isWithin hl a4 (0 : Int32) (30 : Int32) s3) mw_X7_isWithin lk_X5_49 st_X7_isWithin rfl (Nat.le_of_ble_eq_true rfl) (by decide) dX5_faultOfAdding_33 rfl (qkI (fun r4 s4 => (qv_if_eq C (tgt := 43) dX5_faultOfAdding_36 (by decide) (fun _ => (qV.weak [true, false, false, false, false, false] (jt_X5_faultOfAdding_43 hl C hret ht hj0  s4)))
  (fun _ => (qv_iconst C (v := (1 : Int32)) dX5_faultOfAdding_39 (by decide) (qv_goto C (tgt := 44) dX5_faultOfAdding_40 (by decide) (qv_istore C dX5_faultOfAdding_44 (by decide) rfl (qv_iload C dX5_faultOfAdding_46 rfl (qv_if_ne C (tgt := 54) dX5_faultOfAdding_48 (by decide) (fun _ => (qv_bipush C (v := (97 : Int32)) dX5_faultOfAdding_51 (by decide) (qv_zret! C hret (qch_nar (by decide)) dX5_faultOfAdding_53)))
  (fun _ => (qv_aload_n C dX5_faultOfAdding_54 rfl (qv_getI C fl_X5_41 cl_X5 rfl (by decide) (by decide) hj0 rfl dX5_faultOfAdding_55 (qv_bipush C (v := (12 : Int32)) dX5_faultOfAdding_58 (by decide) (qv_icmp_ge C (tgt := 68) dX5_faultOfAdding_60 (by decide) (fun _ => (qv_bipush C (v := (115 : Int32)) dX5_faultOfAdding_68 (by decide) (qv_zret! C hret (qch_nar (by decide)) dX5_faultOfAdding_70)))
  (fun _ => (qv_bipush C (v := (46 : Int32)) dX5_faultOfAdding_63 (by decide) (qv_goto C (tgt := 70) dX5_faultOfAdding_65 (by decide) (qv_zret! C hret (qch_nar (by decide)) dX5_faultOfAdding_70))))))))))))))))))))))))))))))))))))))))))))))
def f_X5_isLinked (j0 : Nat) (a1 : Int32) (a2 : Int32) (s0 : qS) : Option qO :=
  qbind (f_X7_at 6 j0 a1 s0) (qvI (fun r1 s1 =>
  qbind (f_X7_hasBit r1 a2 s1) (qvI (fun r2 s2 =>
  (if qbo r2 then some (.inl (some (qI r2)), s2) else none))) qE0)) qE0
set_option maxRecDepth 100000 in
set_option maxHeartbeats 4000000 in
theorem t_X5_isLinked {g : qG} {l : Launch} (hl : l.stackTraces = false) {j0 : Nat} (hj0 : j0 < 11) (a1 : Int32) (a2 : Int32) (s0 : qS) : qM g l 2 0 0 (.code yX5_isLinked cX5_isLinked 3 (some .boolean)) yX5_isLinked [qR 1 j0, qI a1, qI a2] s0 (f_X5_isLinked j0 a1 a2 s0) := by
  refine qM_of (by decide +kernel) hl (List.forall_mem_cons.mpr ⟨rfl, (List.forall_mem_cons.mpr ⟨rfl, (List.forall_mem_cons.mpr ⟨rfl, (fun _ h => absurd h List.not_mem_nil)⟩)⟩)⟩) (Nat.le_of_ble_eq_true rfl) ?_
  intro p e s m args below meth c C hret ht
  show qV p l e _ s m args below meth c g _ _ _ _ _ 0 [some (qR 1 j0), some (qI a1), some (qI a2)] [] s0
  exact (qv_aload_n C dX5_isLinked_0 rfl (qv_getR C (j2 := j0) fl_X5_24 cl_X5 rfl (by decide) (by decide) hj0 rfl rfl dX5_isLinked_1 (qv_iload_n C dX5_isLinked_4 rfl (qv_callSN C (rest := []) (cb := 0) (sb := 0) (t_X7_at hl rfl (by decide) hj0 a1 s0) mw_X7_at lk_X5_72 st_X7_at rfl (Nat.le_of_ble_eq_true rfl) (by decide) dX5_isLinked_5 rfl (qkI (fun r1 s1 => (qv_iload_n C dX5_isLinked_8 rfl (qv_callSN C (rest := []) (cb := 0) (sb := 0) (t_X7_hasBit hl r1 a2 s1) mw_X7_hasBit lk_X5_76 st_X7_hasBit rfl (Nat.le_of_ble_eq_true rfl) (by decide) dX5_isLinked_9 rfl (qkI (fun r2 s2 => (qv_bret C hret dX5_isLinked_12)))))))))))
def f_X5_link (j0 : Nat) (a1 : Int32) (a2 : Int32) (s0 : qS) : Option qO :=
  qbind (f_X7_at 6 j0 a1 s0) (qvI (fun r1 s1 =>
  qbind (f_X7_put 6 j0 a1 (r1 ||| ((1 : Int32) <<< (a2 &&& 31))) s1) (qvV (fun s2 =>
  (some (.inl none, s2)))) qE0)) qE0
set_option maxRecDepth 100000 in
set_option maxHeartbeats 4000000 in
theorem t_X5_link {g : qG} {l : Launch} (hl : l.stackTraces = false) {j0 : Nat} (hj0 : j0 < 11) (a1 : Int32) (a2 : Int32) (s0 : qS) : qM g l 2 0 0 (.code yX5_link cX5_link 3 none) yX5_link [qR 1 j0, qI a1, qI a2] s0 (f_X5_link j0 a1 a2 s0) := by
  refine qM_of (by decide +kernel) hl (List.forall_mem_cons.mpr ⟨rfl, (List.forall_mem_cons.mpr ⟨rfl, (List.forall_mem_cons.mpr ⟨rfl, (fun _ h => absurd h List.not_mem_nil)⟩)⟩)⟩) (Nat.le_of_ble_eq_true rfl) ?_
  intro p e s m args below meth c C hret ht
  show qV p l e _ s m args below meth c g _ _ _ _ _ 0 [some (qR 1 j0), some (qI a1), some (qI a2)] [] s0
  exact (qv_aload_n C dX5_link_0 rfl (qv_getR C (j2 := j0) fl_X5_24 cl_X5 rfl (by decide) (by decide) hj0 rfl rfl dX5_link_1 (qv_iload_n C dX5_link_4 rfl (qv_aload_n C dX5_link_5 rfl (qv_getR C (j2 := j0) fl_X5_24 cl_X5 rfl (by decide) (by decide) hj0 rfl rfl dX5_link_6 (qv_iload_n C dX5_link_9 rfl (qv_callSN C (rest := [qI a1, qR 6 j0]) (cb := 0) (sb := 0) (t_X7_at hl rfl (by decide) hj0 a1 s0) mw_X7_at lk_X5_72 st_X7_at rfl (Nat.le_of_ble_eq_true rfl) (by decide) dX5_link_10 rfl (qkI (fun r1 s1 => (qv_iconst C (v := (1 : Int32)) dX5_link_13 (by decide) (qv_iload_n C dX5_link_14 rfl (qv_ishl C dX5_link_15 (qv_ior C dX5_link_16 (qv_callSN C (rest := []) (cb := 0) (sb := 0) (t_X7_put hl rfl (by decide) hj0 a1 (r1 ||| ((1 : Int32) <<< (a2 &&& 31))) s1) mw_X7_put lk_X5_65 st_X7_put rfl (Nat.le_of_ble_eq_true rfl) (by decide) dX5_link_17 rfl (qkV (fun s2 => (qv_vret C hret dX5_link_20)))))))))))))))))
def f_X5_unlink (j0 : Nat) (a1 : Int32) (a2 : Int32) (s0 : qS) : Option qO :=
  qbind (f_X7_at 6 j0 a1 s0) (qvI (fun r1 s1 =>
  qbind (f_X7_put 6 j0 a1 (r1 &&& (((1 : Int32) <<< (a2 &&& 31)) ^^^ (-1 : Int32))) s1) (qvV (fun s2 =>
  (some (.inl none, s2)))) qE0)) qE0
set_option maxRecDepth 100000 in
set_option maxHeartbeats 4000000 in
theorem t_X5_unlink {g : qG} {l : Launch} (hl : l.stackTraces = false) {j0 : Nat} (hj0 : j0 < 11) (a1 : Int32) (a2 : Int32) (s0 : qS) : qM g l 2 0 0 (.code yX5_unlink cX5_unlink 3 none) yX5_unlink [qR 1 j0, qI a1, qI a2] s0 (f_X5_unlink j0 a1 a2 s0) := by
  refine qM_of (by decide +kernel) hl (List.forall_mem_cons.mpr ⟨rfl, (List.forall_mem_cons.mpr ⟨rfl, (List.forall_mem_cons.mpr ⟨rfl, (fun _ h => absurd h List.not_mem_nil)⟩)⟩)⟩) (Nat.le_of_ble_eq_true rfl) ?_
  intro p e s m args below meth c C hret ht
  show qV p l e _ s m args below meth c g _ _ _ _ _ 0 [some (qR 1 j0), some (qI a1), some (qI a2)] [] s0
  exact (qv_aload_n C dX5_unlink_0 rfl (qv_getR C (j2 := j0) fl_X5_24 cl_X5 rfl (by decide) (by decide) hj0 rfl rfl dX5_unlink_1 (qv_iload_n C dX5_unlink_4 rfl (qv_aload_n C dX5_unlink_5 rfl (qv_getR C (j2 := j0) fl_X5_24 cl_X5 rfl (by decide) (by decide) hj0 rfl rfl dX5_unlink_6 (qv_iload_n C dX5_unlink_9 rfl (qv_callSN C (rest := [qI a1, qR 6 j0]) (cb := 0) (sb := 0) (t_X7_at hl rfl (by decide) hj0 a1 s0) mw_X7_at lk_X5_72 st_X7_at rfl (Nat.le_of_ble_eq_true rfl) (by decide) dX5_unlink_10 rfl (qkI (fun r1 s1 => (qv_iconst C (v := (1 : Int32)) dX5_unlink_13 (by decide) (qv_iload_n C dX5_unlink_14 rfl (qv_ishl C dX5_unlink_15 (qv_iconst C (v := (-1 : Int32)) dX5_unlink_16 (by decide) (qv_ixor C dX5_unlink_17 (qv_iand C dX5_unlink_18 (qv_callSN C (rest := []) (cb := 0) (sb := 0) (t_X7_put hl rfl (by decide) hj0 a1 (r1 &&& (((1 : Int32) <<< (a2 &&& 31)) ^^^ (-1 : Int32))) s1) mw_X7_put lk_X5_65 st_X7_put rfl (Nat.le_of_ble_eq_true rfl) (by decide) dX5_unlink_19 rfl (qkV (fun s2 => (qv_vret C hret dX5_unlink_22)))))))))))))))))))
def f_X5_isReady (j0 : Nat) (a1 : Int32) (a2 : Int32) (s0 : qS) : Option qO :=
  qbind (f_X7_hasBit a2 a1 s0) (qvI (fun r1 s1 =>
  (if r1 = 0 then qbind (f_X7_at 6 j0 a1 s1) (qvI (fun r2 s2 =>
  (if (r2 &&& (a2 ^^^ (-1 : Int32))) = 0 then (some (.inl (some (qI (1 : Int32))), s2)) else
  (some (.inl (some (qI (0 : Int32))), s2))))) qE0 else
  (some (.inl (some (qI (0 : Int32))), s1))))) qE0
set_option maxRecDepth 100000 in
set_option maxHeartbeats 4000000 in
theorem t_X5_isReady {g : qG} {l : Launch} (hl : l.stackTraces = false) {j0 : Nat} (hj0 : j0 < 11) (a1 : Int32) (a2 : Int32) (s0 : qS) : qM g l 2 0 0 (.code yX5_isReady cX5_isReady 3 (some .boolean)) yX5_isReady [qR 1 j0, qI a1, qI a2] s0 (f_X5_isReady j0 a1 a2 s0) := by
  refine qM_of (by decide +kernel) hl (List.forall_mem_cons.mpr ⟨rfl, (List.forall_mem_cons.mpr ⟨rfl, (List.forall_mem_cons.mpr ⟨rfl, (fun _ h => absurd h List.not_mem_nil)⟩)⟩)⟩) (Nat.le_of_ble_eq_true rfl) ?_
  intro p e s m args below meth c C hret ht
  show qV p l e _ s m args below meth c g _ _ _ _ _ 0 [some (qR 1 j0), some (qI a1), some (qI a2)] [] s0
  exact (qv_iload_n C dX5_isReady_0 rfl (qv_iload_n C dX5_isReady_1 rfl (qv_callSN C (rest := []) (cb := 0) (sb := 0) (t_X7_hasBit hl a2 a1 s0) mw_X7_hasBit lk_X5_76 st_X7_hasBit rfl (Nat.le_of_ble_eq_true rfl) (by decide) dX5_isReady_2 rfl (qkI (fun r1 s1 => (qv_if_ne C (tgt := 27) dX5_isReady_5 (by decide) (fun _ => (qv_aload_n C dX5_isReady_8 rfl (qv_getR C (j2 := j0) fl_X5_24 cl_X5 rfl (by decide) (by decide) hj0 rfl rfl dX5_isReady_9 (qv_iload_n C dX5_isReady_12 rfl (qv_callSN C (rest := []) (cb := 0) (sb := 0) (t_X7_at hl rfl (by decide) hj0 a1 s1) mw_X7_at lk_X5_72 st_X7_at rfl (Nat.le_of_ble_eq_true rfl) (by decide) dX5_isReady_13 rfl (qkI (fun r2 s2 => (qv_iload_n C dX5_isReady_16 rfl (qv_iconst C (v := (-1 : Int32)) dX5_isReady_17 (by decide) (qv_ixor C dX5_isReady_18 (qv_iand C dX5_isReady_19 (qv_if_ne C (tgt := 27) dX5_isReady_20 (by decide) (fun _ => (qv_iconst C (v := (1 : Int32)) dX5_isReady_23 (by decide) (qv_goto C (tgt := 28) dX5_isReady_24 (by decide) (qv_zret! C hret (qbo_nar (by decide)) dX5_isReady_28))))
  (fun _ => (qv_iconst C (v := (0 : Int32)) dX5_isReady_27 (by decide) (qv_zret! C hret (qbo_nar (by decide)) dX5_isReady_28)))))))))))))))
  (fun _ => (qv_iconst C (v := (0 : Int32)) dX5_isReady_27 (by decide) (qv_zret! C hret (qbo_nar (by decide)) dX5_isReady_28)))))))))
def f_X5_takeStarts (j0 : Nat) (k1 j1 : Nat) (s0 : qS) : Option qO :=
  qbind (f_X7_copyRow k1 j1 7 j0 s0) (qvV (fun s1 =>
  qlet (qu s1 1 j0 8 (1 : Int32)) (fun s2 =>
  (some (.inl none, s2))))) qE0
set_option maxRecDepth 100000 in
set_option maxHeartbeats 4000000 in
theorem t_X5_takeStarts {g : qG} {l : Launch} (hl : l.stackTraces = false) {j0 : Nat} (hj0 : j0 < 11) {k1 j1 : Nat} (hs1 : qsh k1 = 1) (hk1 : k1 < 26) (hj1 : j1 < qn k1) (s0 : qS) : qM g l 2 0 0 (.code yX5_takeStarts cX5_takeStarts 2 none) yX5_takeStarts [qR 1 j0, qR k1 j1] s0 (f_X5_takeStarts j0 k1 j1 s0) := by
  refine qM_of (by decide +kernel) hl (List.forall_mem_cons.mpr ⟨rfl, (List.forall_mem_cons.mpr ⟨rfl, (fun _ h => absurd h List.not_mem_nil)⟩)⟩) (Nat.le_of_ble_eq_true rfl) ?_
  intro p e s m args below meth c C hret ht
  show qV p l e _ s m args below meth c g _ _ _ _ _ 0 [some (qR 1 j0), some (qR k1 j1)] [] s0
  exact (qv_aload_n C dX5_takeStarts_0 rfl (qv_aload_n C dX5_takeStarts_1 rfl (qv_getR C (j2 := j0) fl_X5_27 cl_X5 rfl (by decide) (by decide) hj0 rfl rfl dX5_takeStarts_2 (qv_callSN C (rest := []) (cb := 0) (sb := 0) (t_X7_copyRow hl hs1 hk1 hj1 rfl (by decide) hj0 s0) mw_X7_copyRow lk_X5_37 st_X7_copyRow rfl (Nat.le_of_ble_eq_true rfl) (by decide) dX5_takeStarts_5 rfl (qkV (fun s1 => (qv_aload_n C dX5_takeStarts_8 rfl (qv_iconst C (v := (1 : Int32)) dX5_takeStarts_9 (by decide) (qv_putI C fl_X5_45 cl_X5 rfl (by decide) (by decide) hj0 rfl rfl rfl (qbo_nar (by decide)) (qbo_fits (by decide)) dX5_takeStarts_10 (qv_let (fun s2 => (qv_vret C hret dX5_takeStarts_13))))))))))))
def f_X5_hasStart (j0 : Nat) (a1 : Int32) (s0 : qS) : Option qO :=
  (if (s0 1 j0 8) = 0 then (some (.inl (some (qI (0 : Int32))), s0)) else
  qbind (f_X7_at 7 j0 a1 s0) (qvI (fun r1 s1 =>
  (if r1 = (-1 : Int32) then (some (.inl (some (qI (0 : Int32))), s1)) else
  (some (.inl (some (qI (1 : Int32))), s1))))) qE0)
set_option maxRecDepth 100000 in
set_option maxHeartbeats 4000000 in
theorem t_X5_hasStart {g : qG} {l : Launch} (hl : l.stackTraces = false) {j0 : Nat} (hj0 : j0 < 11) (a1 : Int32) (s0 : qS) : qM g l 2 0 0 (.code yX5_hasStart cX5_hasStart 2 (some .boolean)) yX5_hasStart [qR 1 j0, qI a1] s0 (f_X5_hasStart j0 a1 s0) := by
  refine qM_of (by decide +kernel) hl (List.forall_mem_cons.mpr ⟨rfl, (List.forall_mem_cons.mpr ⟨rfl, (fun _ h => absurd h List.not_mem_nil)⟩)⟩) (Nat.le_of_ble_eq_true rfl) ?_
  intro p e s m args below meth c C hret ht
  show qV p l e _ s m args below meth c g _ _ _ _ _ 0 [some (qR 1 j0), some (qI a1)] [] s0
  exact (qv_aload_n C dX5_hasStart_0 rfl (qv_getI C fl_X5_45 cl_X5 rfl (by decide) (by decide) hj0 rfl dX5_hasStart_1 (qv_if_eq C (tgt := 23) dX5_hasStart_4 (by decide) (fun _ => (qv_iconst C (v := (0 : Int32)) dX5_hasStart_23 (by decide) (qv_zret! C hret (qbo_nar (by decide)) dX5_hasStart_24)))
  (fun _ => (qv_aload_n C dX5_hasStart_7 rfl (qv_getR C (j2 := j0) fl_X5_27 cl_X5 rfl (by decide) (by decide) hj0 rfl rfl dX5_hasStart_8 (qv_iload_n C dX5_hasStart_11 rfl (qv_callSN C (rest := []) (cb := 0) (sb := 0) (t_X7_at hl rfl (by decide) hj0 a1 s0) mw_X7_at lk_X5_72 st_X7_at rfl (Nat.le_of_ble_eq_true rfl) (by decide) dX5_hasStart_12 rfl (qkI (fun r1 s1 => (qv_iconst C (v := (-1 : Int32)) dX5_hasStart_15 (by decide) (qv_icmp_eq C (tgt := 23) dX5_hasStart_16 (by decide) (fun _ => (qv_iconst C (v := (0 : Int32)) dX5_hasStart_23 (by decide) (qv_zret! C hret (qbo_nar (by decide)) dX5_hasStart_24)))
  (fun _ => (qv_iconst C (v := (1 : Int32)) dX5_hasStart_19 (by decide) (qv_goto C (tgt := 24) dX5_hasStart_20 (by decide) (qv_zret! C hret (qbo_nar (by decide)) dX5_hasStart_24))))))))))))))))
def b_X5_workOf_4 (j0 : Nat) (rk4 : Int32 → Int32 → Int32 → qS → Option qO) (v1 : Int32) (v2 : Int32) (v3 : Int32) (s0 : qS) : Option qO :=
  (if (s0 1 j0 7) ≤ v3 then (some (.inl (some (qI v2)), s0)) else
  qbind (f_X7_at 3 j0 v3 s0) (qvI (fun r1 s1 =>
  (if r1 = v1 then qbind (f_X7_at 2 j0 v3 s1) (qvI (fun r2 s2 =>
  qbind (f_X7_at 4 j0 v3 s2) (qvI (fun r3 s3 =>
  rk4 v1 (v2 + (r2 * r3)) (v3 + (1 : Int32)) s3)) qE0)) qE0 else
  rk4 v1 v2 (v3 + (1 : Int32)) s1))) qE0)
def l_X5_workOf_4 (j0 : Nat) : Nat → Int32 → Int32 → Int32 → qS → Option qO
  | 0, _, _, _, _ => none
  | n + 1, v1, v2, v3, s0 => b_X5_workOf_4 j0 (l_X5_workOf_4 j0 n) v1 v2 v3 s0
set_option maxRecDepth 100000 in
set_option maxHeartbeats 4000000 in
theorem bt_X5_workOf_4 {p : Program} {l : Launch} {e : Env} {s : State} {m : MethodId} {args : Array Value} {below : List Frame} {meth : Method} {c : Code} {g : qG} (hl : l.stackTraces = false) (C : qC p l s m meth c cX5_workOf 4 RX5 g) (hret : meth.sig.returnType = (some .int)) (ht : ∀ x ∈ c.exceptionTable.toList, False) {j0 : Nat} (hj0 : j0 < 11) (rk4 : Int32 → Int32 → Int32 → qS → Option qO) (hrk4 : ∀ (v1 : Int32) (v2 : Int32) (v3 : Int32) (s0 : qS), qV p l e (qrm 2 0 0) s m args below meth c g 4 (qQf g below args s (qrm 2 0 0)) (rk4 v1 v2 v3 s0) 0 0 4 [some (qR 1 j0), some (qI v1), some (qI v2), some (qI v3)] [] s0) (v1 : Int32) (v2 : Int32) (v3 : Int32) (s0 : qS) : qV p l e (qrm 2 0 0) s m args below meth c g 4 (qQf g below args s (qrm 2 0 0)) (b_X5_workOf_4 j0 rk4 v1 v2 v3 s0) 0 0 4 [some (qR 1 j0), some (qI v1), some (qI v2), some (qI v3)] [] s0 :=
  (qv_iload_n C dX5_workOf_4 rfl (qv_aload_n C dX5_workOf_5 rfl (qv_getI C fl_X5_41 cl_X5 rfl (by decide) (by decide) hj0 rfl dX5_workOf_6 (qv_icmp_ge C (tgt := 50) dX5_workOf_9 (by decide) (fun _ => (qv_iload_n C dX5_workOf_50 rfl (qv_iret C hret dX5_workOf_51)))
  (fun _ => (qv_aload_n C dX5_workOf_12 rfl (qv_getR C (j2 := j0) fl_X5_15 cl_X5 rfl (by decide) (by decide) hj0 rfl rfl dX5_workOf_13 (qv_iload_n C dX5_workOf_16 rfl (qv_callSN C (rest := []) (cb := 0) (sb := 0) (t_X7_at hl rfl (by decide) hj0 v3 s0) mw_X7_at lk_X5_72 st_X7_at rfl (Nat.le_of_ble_eq_true rfl) (by decide) dX5_workOf_17 rfl (qkI (fun r1 s1 => (qv_iload_n C dX5_workOf_20 rfl (qv_icmp_ne C (tgt := 44) dX5_workOf_21 (by decide) (fun _ => (qv_iload_n C dX5_workOf_24 rfl (qv_aload_n C dX5_workOf_25 rfl (qv_getR C (j2 := j0) fl_X5_9 cl_X5 rfl (by decide) (by decide) hj0 rfl rfl dX5_workOf_26 (qv_iload_n C dX5_workOf_29 rfl (qv_callSN C (rest := [qI v2]) (cb := 0) (sb := 0) (t_X7_at hl rfl (by decide) hj0 v3 s1) mw_X7_at lk_X5_72 st_X7_at rfl (Nat.le_of_ble_eq_true rfl) (by decide) dX5_workOf_30 rfl (qkI (fun r2 s2 => (qv_aload_n C dX5_workOf_33 rfl (qv_getR C (j2 := j0) fl_X5_18 cl_X5 rfl (by decide) (by decide) hj0 rfl rfl dX5_workOf_34 (qv_iload_n C dX5_workOf_37 rfl (qv_callSN C (rest := [qI r2, qI v2]) (cb := 0) (sb := 0) (t_X7_at hl rfl (by decide) hj0 v3 s2) mw_X7_at lk_X5_72 st_X7_at rfl (Nat.le_of_ble_eq_true rfl) (by decide) dX5_workOf_38 rfl (qkI (fun r3 s3 => (qv_imul C dX5_workOf_41 (qv_iadd C dX5_workOf_42 (qv_istore_n C dX5_workOf_43 (by decide) rfl (qv_iinc C (v := (v3 + (1 : Int32))) dX5_workOf_44 rfl rfl (by decide) rfl (qv_goto C (tgt := 4) dX5_workOf_47 (by decide) (qV.weak [true, true, true, true] (hrk4 v1 (v2 + (r2 * r3)) (v3 + (1 : Int32)) s3)))))))))))))))))))))
  (fun _ => (qv_iinc C (v := (v3 + (1 : Int32))) dX5_workOf_44 rfl rfl (by decide) rfl (qv_goto C (tgt := 4) dX5_workOf_47 (by decide) (qV.weak [true, true, true, true] (hrk4 v1 v2 (v3 + (1 : Int32)) s1))))))))))))))))))
theorem lt_X5_workOf_4 {p : Program} {l : Launch} {e : Env} {s : State} {m : MethodId} {args : Array Value} {below : List Frame} {meth : Method} {c : Code} {g : qG} (hl : l.stackTraces = false) (C : qC p l s m meth c cX5_workOf 4 RX5 g) (hret : meth.sig.returnType = (some .int)) (ht : ∀ x ∈ c.exceptionTable.toList, False) {j0 : Nat} (hj0 : j0 < 11) : ∀ (n : Nat) (v1 : Int32) (v2 : Int32) (v3 : Int32) (s0 : qS), qV p l e (qrm 2 0 0) s m args below meth c g 4 (qQf g below args s (qrm 2 0 0)) (l_X5_workOf_4 j0 n v1 v2 v3 s0) 0 0 4 [some (qR 1 j0), some (qI v1), some (qI v2), some (qI v3)] [] s0
  | 0, _, _, _, _ => qV.no
  | n + 1, v1, v2, v3, s0 => bt_X5_workOf_4 hl C hret ht hj0 _ (lt_X5_workOf_4 hl C hret ht hj0 n) v1 v2 v3 s0
def f_X5_workOf (j0 : Nat) (a1 : Int32) (s0 : qS) : Option qO :=
  l_X5_workOf_4 j0 qFU a1 (0 : Int32) (0 : Int32) s0
set_option maxRecDepth 100000 in
set_option maxHeartbeats 4000000 in
theorem t_X5_workOf {g : qG} {l : Launch} (hl : l.stackTraces = false) {j0 : Nat} (hj0 : j0 < 11) (a1 : Int32) (s0 : qS) : qM g l 2 0 0 (.code yX5_workOf cX5_workOf 4 (some .int)) yX5_workOf [qR 1 j0, qI a1] s0 (f_X5_workOf j0 a1 s0) := by
  refine qM_of (by decide +kernel) hl (List.forall_mem_cons.mpr ⟨rfl, (List.forall_mem_cons.mpr ⟨rfl, (fun _ h => absurd h List.not_mem_nil)⟩)⟩) (Nat.le_of_ble_eq_true rfl) ?_
  intro p e s m args below meth c C hret ht
  show qV p l e _ s m args below meth c g _ _ _ _ _ 0 [some (qR 1 j0), some (qI a1), none, none] [] s0
  exact (qv_iconst C (v := (0 : Int32)) dX5_workOf_0 (by decide) (qv_istore_n C dX5_workOf_1 (by decide) rfl (qv_iconst C (v := (0 : Int32)) dX5_workOf_2 (by decide) (qv_istore_n C dX5_workOf_3 (by decide) rfl (qV.weak [true, true, true, true] (lt_X5_workOf_4 hl C hret ht hj0 qFU a1 (0 : Int32) (0 : Int32) s0))))))
def f_X5_append (j0 : Nat) (a1 : Int32) (a2 : Int32) (a3 : Int32) (a4 : Int32) (s0 : qS) : Option qO :=
  qbind (f_X7_put 2 j0 (s0 1 j0 7) a1 s0) (qvV (fun s1 =>
  qbind (f_X7_put 3 j0 (s0 1 j0 7) a2 s1) (qvV (fun s2 =>
  qbind (f_X7_put 4 j0 (s0 1 j0 7) a3 s2) (qvV (fun s3 =>
  qbind (f_X7_put 5 j0 (s0 1 j0 7) a4 s3) (qvV (fun s4 =>
  qbind (f_X7_put 6 j0 (s0 1 j0 7) (0 : Int32) s4) (qvV (fun s5 =>
  qbind (f_X7_put 7 j0 (s0 1 j0 7) (-1 : Int32) s5) (qvV (fun s6 =>
  qlet (qu s6 1 j0 7 ((s0 1 j0 7) + (1 : Int32))) (fun s7 =>
  (some (.inl (some (qI (s0 1 j0 7))), s7))))) qE0)) qE0)) qE0)) qE0)) qE0)) qE0
set_option maxRecDepth 100000 in
set_option maxHeartbeats 4000000 in
theorem t_X5_append {g : qG} {l : Launch} (hl : l.stackTraces = false) {j0 : Nat} (hj0 : j0 < 11) (a1 : Int32) (a2 : Int32) (a3 : Int32) (a4 : Int32) (s0 : qS) : qM g l 2 0 0 (.code yX5_append cX5_append 6 (some .int)) yX5_append [qR 1 j0, qI a1, qI a2, qI a3, qI a4] s0 (f_X5_append j0 a1 a2 a3 a4 s0) := by
  refine qM_of (by decide +kernel) hl (List.forall_mem_cons.mpr ⟨rfl, (List.forall_mem_cons.mpr ⟨rfl, (List.forall_mem_cons.mpr ⟨rfl, (List.forall_mem_cons.mpr ⟨rfl, (List.forall_mem_cons.mpr ⟨rfl, (fun _ h => absurd h List.not_mem_nil)⟩)⟩)⟩)⟩)⟩) (Nat.le_of_ble_eq_true rfl) ?_
  intro p e s m args below meth c C hret ht
  show qV p l e _ s m args below meth c g _ _ _ _ _ 0 [some (qR 1 j0), some (qI a1), some (qI a2), some (qI a3), some (qI a4), none] [] s0
  exact (qv_aload_n C dX5_append_0 rfl (qv_getI C fl_X5_41 cl_X5 rfl (by decide) (by decide) hj0 rfl dX5_append_1 (qv_istore C dX5_append_4 (by decide) rfl (qv_aload_n C dX5_append_6 rfl (qv_getR C (j2 := j0) fl_X5_9 cl_X5 rfl (by decide) (by decide) hj0 rfl rfl dX5_append_7 (qv_iload C dX5_append_10 rfl (qv_iload_n C dX5_append_12 rfl (qv_callSN C (rest := []) (cb := 0) (sb := 0) (t_X7_put hl rfl (by decide) hj0 (s0 1 j0 7) a1 s0) mw_X7_put lk_X5_65 st_X7_put rfl (Nat.le_of_ble_eq_true rfl) (by decide) dX5_append_13 rfl (qkV (fun s1 => (qv_aload_n C dX5_append_16 rfl (qv_getR C (j2 := j0) fl_X5_15 cl_X5 rfl (by decide) (by decide) hj0 rfl rfl dX5_append_17 (qv_iload C dX5_append_20 rfl (qv_iload_n C dX5_append_22 rfl (qv_callSN C (rest := []) (cb := 0) (sb := 0) (t_X7_put hl rfl (by decide) hj0 (s0 1 j0 7) a2 s1) mw_X7_put lk_X5_65 st_X7_put rfl (Nat.le_of_ble_eq_true rfl) (by decide) dX5_append_23 rfl (qkV (fun s2 => (qv_aload_n C dX5_append_26 rfl (qv_getR C (j2 := j0) fl_X5_18 cl_X5 rfl (by decide) (by decide) hj0 rfl rfl dX5_append_27 (qv_iload C dX5_append_30 rfl (qv_iload_n C dX5_append_32 rfl (qv_callSN C (rest := []) (cb := 0) (sb := 0) (t_X7_put hl rfl (by decide) hj0 (s0 1 j0 7) a3 s2) mw_X7_put lk_X5_65 st_X7_put rfl (Nat.le_of_ble_eq_true rfl) (by decide) dX5_append_33 rfl (qkV (fun s3 => (qv_aload_n C dX5_append_36 rfl (qv_getR C (j2 := j0) fl_X5_21 cl_X5 rfl (by decide) (by decide) hj0 rfl rfl dX5_append_37 (qv_iload C dX5_append_40 rfl (qv_iload C dX5_append_42 rfl (qv_callSN C (rest := []) (cb := 0) (sb := 0) (t_X7_put hl rfl (by decide) hj0 (s0 1 j0 7) a4 s3) mw_X7_put lk_X5_65 st_X7_put rfl (Nat.le_of_ble_eq_true rfl) (by decide) dX5_append_44 rfl (qkV (fun s4 => (qv_aload_n C dX5_append_47 rfl (qv_getR C (j2 := j0) fl_X5_24 cl_X5 rfl (by decide) (by decide) hj0 rfl rfl dX5_append_48 (qv_iload C dX5_append_51 rfl (qv_iconst C (v := (0 : Int32)) dX5_append_53 (by decide) (qv_callSN C (rest := []) (cb := 0) (sb := 0) (t_X7_put hl rfl (by decide) hj0 (s0 1 j0 7) (0 : Int32) s4) mw_X7_put lk_X5_65 st_X7_put rfl (Nat.le_of_ble_eq_true rfl) (by decide) dX5_append_54 rfl (qkV (fun s5 => (qv_aload_n C dX5_append_57 rfl (qv_getR C (j2 := j0) fl_X5_27 cl_X5 rfl (by decide) (by decide) hj0 rfl rfl dX5_append_58 (qv_iload C dX5_append_61 rfl (qv_iconst C (v := (-1 : Int32)) dX5_append_63 (by decide) (qv_callSN C (rest := []) (cb := 0) (sb := 0) (t_X7_put hl rfl (by decide) hj0 (s0 1 j0 7) (-1 : Int32) s5) mw_X7_put lk_X5_65 st_X7_put rfl (Nat.le_of_ble_eq_true rfl) (by decide) dX5_append_64 rfl (qkV (fun s6 => (qv_aload_n C dX5_append_67 rfl (qv_iload C dX5_append_68 rfl (qv_iconst C (v := (1 : Int32)) dX5_append_70 (by decide) (qv_iadd C dX5_append_71 (qv_putI C fl_X5_41 cl_X5 rfl (by decide) (by decide) hj0 rfl rfl rfl (qin_nar _) (qin_fits _) dX5_append_72 (qv_let (fun s7 => (qv_iload C dX5_append_75 rfl (qv_iret C hret dX5_append_77))))))))))))))))))))))))))))))))))))))))))))))))))))))
def b_X5_drop_66 (j0 : Nat) (rk66 : Int32 → Int32 → qS → Option qO) (v2 : Int32) (v3 : Int32) (s0 : qS) : Option qO :=
  (if (s0 1 j0 7) ≤ v3 then (some (.inl none, s0)) else
  qbind (f_X7_at 6 j0 v3 s0) (qvI (fun r1 s8 =>
  qbind (f_X7_put 6 j0 v3 ((r1 &&& v2) ||| ((r1 >>> ((1 : Int32) &&& 31)) &&& (v2 ^^^ (-1 : Int32)))) s8) (qvV (fun s9 =>
  rk66 v2 (v3 + (1 : Int32)) s9)) qE0)) qE0)
def l_X5_drop_66 (j0 : Nat) : Nat → Int32 → Int32 → qS → Option qO
  | 0, _, _, _ => none
  | n + 1, v2, v3, s0 => b_X5_drop_66 j0 (l_X5_drop_66 j0 n) v2 v3 s0
set_option maxRecDepth 100000 in
set_option maxHeartbeats 4000000 in
theorem bt_X5_drop_66 {p : Program} {l : Launch} {e : Env} {s : State} {m : MethodId} {args : Array Value} {below : List Frame} {meth : Method} {c : Code} {g : qG} (hl : l.stackTraces = false) (C : qC p l s m meth c cX5_drop 5 RX5 g) (hret : meth.sig.returnType = none) (ht : ∀ x ∈ c.exceptionTable.toList, False) {j0 : Nat} (hj0 : j0 < 11) (rk66 : Int32 → Int32 → qS → Option qO) (hrk66 : ∀ (v2 : Int32) (v3 : Int32) (s0 : qS), qV p l e (qrm 2 0 0) s m args below meth c g 5 (qQf g below args s (qrm 2 0 0)) (rk66 v2 v3 s0) 0 0 66 [some (qR 1 j0), none, some (qI v2), some (qI v3), none] [] s0) (v2 : Int32) (v3 : Int32) (s0 : qS) : qV p l e (qrm 2 0 0) s m args below meth c g 5 (qQf g below args s (qrm 2 0 0)) (b_X5_drop_66 j0 rk66 v2 v3 s0) 0 0 66 [some (qR 1 j0), none, some (qI v2), some (qI v3), none] [] s0 :=
  (qv_iload_n C dX5_drop_66 rfl (qv_aload_n C dX5_drop_67 rfl (qv_getI C fl_X5_41 cl_X5 rfl (by decide) (by decide) hj0 rfl dX5_drop_68 (qv_icmp_ge C (tgt := 111) dX5_drop_71 (by decide) (fun _ => (qv_vret C hret dX5_drop_111))
  (fun _ => (qv_aload_n C dX5_drop_74 rfl (qv_getR C (j2 := j0) fl_X5_24 cl_X5 rfl (by decide) (by decide) hj0 rfl rfl dX5_drop_75 (qv_iload_n C dX5_drop_78 rfl (qv_callSN C (rest := []) (cb := 0) (sb := 0) (t_X7_at hl rfl (by decide) hj0 v3 s0) mw_X7_at lk_X5_72 st_X7_at rfl (Nat.le_of_ble_eq_true rfl) (by decide) dX5_drop_79 rfl (qkI (fun r1 s8 => (qv_istore C dX5_drop_82 (by decide) rfl (qv_aload_n C dX5_drop_84 rfl (qv_getR C (j2 := j0) fl_X5_24 cl_X5 rfl (by decide) (by decide) hj0 rfl rfl dX5_drop_85 (qv_iload_n C dX5_drop_88 rfl (qv_iload C dX5_drop_89 rfl (qv_iload_n C dX5_drop_91 rfl (qv_iand C dX5_drop_92 (qv_iload C dX5_drop_93 rfl (qv_iconst C (v := (1 : Int32)) dX5_drop_95 (by decide) (qv_ishr C dX5_drop_96 (qv_iload_n C dX5_drop_97 rfl (qv_iconst C (v := (-1 : Int32)) dX5_drop_98 (by decide) (qv_ixor C dX5_drop_99 (qv_iand C dX5_drop_100 (qv_ior C dX5_drop_101 (qv_callSN C (rest := []) (cb := 0) (sb := 0) (t_X7_put hl rfl (by decide) hj0 v3 ((r1 &&& v2) ||| ((r1 >>> ((1 : Int32) &&& 31)) &&& (v2 ^^^ (-1 : Int32)))) s8) mw_X7_put lk_X5_65 st_X7_put rfl (Nat.le_of_ble_eq_true rfl) (by decide) dX5_drop_102 rfl (qkV (fun s9 => (qv_iinc C (v := (v3 + (1 : Int32))) dX5_drop_105 rfl rfl (by decide) rfl (qv_goto C (tgt := 66) dX5_drop_108 (by decide) (qV.weak [true, false, true, true, false] (hrk66 v2 (v3 + (1 : Int32)) s9)))))))))))))))))))))))))))))))))
theorem lt_X5_drop_66 {p : Program} {l : Launch} {e : Env} {s : State} {m : MethodId} {args : Array Value} {below : List Frame} {meth : Method} {c : Code} {g : qG} (hl : l.stackTraces = false) (C : qC p l s m meth c cX5_drop 5 RX5 g) (hret : meth.sig.returnType = none) (ht : ∀ x ∈ c.exceptionTable.toList, False) {j0 : Nat} (hj0 : j0 < 11) : ∀ (n : Nat) (v2 : Int32) (v3 : Int32) (s0 : qS), qV p l e (qrm 2 0 0) s m args below meth c g 5 (qQf g below args s (qrm 2 0 0)) (l_X5_drop_66 j0 n v2 v3 s0) 0 0 66 [some (qR 1 j0), none, some (qI v2), some (qI v3), none] [] s0
  | 0, _, _, _ => qV.no
  | n + 1, v2, v3, s0 => bt_X5_drop_66 hl C hret ht hj0 _ (lt_X5_drop_66 hl C hret ht hj0 n) v2 v3 s0
def f_X5_drop (j0 : Nat) (a1 : Int32) (s0 : qS) : Option qO :=
  qbind (f_X7_closeGap 2 j0 a1 s0) (qvV (fun s1 =>
  qbind (f_X7_closeGap 3 j0 a1 s1) (qvV (fun s2 =>
  qbind (f_X7_closeGap 4 j0 a1 s2) (qvV (fun s3 =>
  qbind (f_X7_closeGap 5 j0 a1 s3) (qvV (fun s4 =>
  qbind (f_X7_closeGap 6 j0 a1 s4) (qvV (fun s5 =>
  qbind (f_X7_closeGap 7 j0 a1 s5) (qvV (fun s6 =>
  qlet (qu s6 1 j0 7 ((s6 1 j0 7) - (1 : Int32))) (fun s7 =>
  l_X5_drop_66 j0 qFU (((1 : Int32) <<< (a1 &&& 31)) - (1 : Int32)) (0 : Int32) s7))) qE0)) qE0)) qE0)) qE0)) qE0)) qE0
set_option maxRecDepth 100000 in
set_option maxHeartbeats 4000000 in
theorem t_X5_drop {g : qG} {l : Launch} (hl : l.stackTraces = false) {j0 : Nat} (hj0 : j0 < 11) (a1 : Int32) (s0 : qS) : qM g l 2 0 0 (.code yX5_drop cX5_drop 5 none) yX5_drop [qR 1 j0, qI a1] s0 (f_X5_drop j0 a1 s0) := by
  refine qM_of (by decide +kernel) hl (List.forall_mem_cons.mpr ⟨rfl, (List.forall_mem_cons.mpr ⟨rfl, (fun _ h => absurd h List.not_mem_nil)⟩)⟩) (Nat.le_of_ble_eq_true rfl) ?_
  intro p e s m args below meth c C hret ht
  show qV p l e _ s m args below meth c g _ _ _ _ _ 0 [some (qR 1 j0), some (qI a1), none, none, none] [] s0
  exact (qv_aload_n C dX5_drop_0 rfl (qv_getR C (j2 := j0) fl_X5_9 cl_X5 rfl (by decide) (by decide) hj0 rfl rfl dX5_drop_1 (qv_iload_n C dX5_drop_4 rfl (qv_callSN C (rest := []) (cb := 0) (sb := 0) (t_X7_closeGap hl rfl (by decide) hj0 a1 s0) mw_X7_closeGap lk_X5_69 st_X7_closeGap rfl (Nat.le_of_ble_eq_true rfl) (by decide) dX5_drop_5 rfl (qkV (fun s1 => (qv_aload_n C dX5_drop_8 rfl (qv_getR C (j2 := j0) fl_X5_15 cl_X5 rfl (by decide) (by decide) hj0 rfl rfl dX5_drop_9 (qv_iload_n C dX5_drop_12 rfl (qv_callSN C (rest := []) (cb := 0) (sb := 0) (t_X7_closeGap hl rfl (by decide) hj0 a1 s1) mw_X7_closeGap lk_X5_69 st_X7_closeGap rfl (Nat.le_of_ble_eq_true rfl) (by decide) dX5_drop_13 rfl (qkV (fun s2 => (qv_aload_n C dX5_drop_16 rfl (qv_getR C (j2 := j0) fl_X5_18 cl_X5 rfl (by decide) (by decide) hj0 rfl rfl dX5_drop_17 (qv_iload_n C dX5_drop_20 rfl (qv_callSN C (rest := []) (cb := 0) (sb := 0) (t_X7_closeGap hl rfl (by decide) hj0 a1 s2) mw_X7_closeGap lk_X5_69 st_X7_closeGap rfl (Nat.le_of_ble_eq_true rfl) (by decide) dX5_drop_21 rfl (qkV (fun s3 => (qv_aload_n C dX5_drop_24 rfl (qv_getR C (j2 := j0) fl_X5_21 cl_X5 rfl (by decide) (by decide) hj0 rfl rfl dX5_drop_25 (qv_iload_n C dX5_drop_28 rfl (qv_callSN C (rest := []) (cb := 0) (sb := 0) (t_X7_closeGap hl rfl (by decide) hj0 a1 s3) mw_X7_closeGap lk_X5_69 st_X7_closeGap rfl (Nat.le_of_ble_eq_true rfl) (by decide) dX5_drop_29 rfl (qkV (fun s4 => (qv_aload_n C dX5_drop_32 rfl (qv_getR C (j2 := j0) fl_X5_24 cl_X5 rfl (by decide) (by decide) hj0 rfl rfl dX5_drop_33 (qv_iload_n C dX5_drop_36 rfl (qv_callSN C (rest := []) (cb := 0) (sb := 0) (t_X7_closeGap hl rfl (by decide) hj0 a1 s4) mw_X7_closeGap lk_X5_69 st_X7_closeGap rfl (Nat.le_of_ble_eq_true rfl) (by decide) dX5_drop_37 rfl (qkV (fun s5 => (qv_aload_n C dX5_drop_40 rfl (qv_getR C (j2 := j0) fl_X5_27 cl_X5 rfl (by decide) (by decide) hj0 rfl rfl dX5_drop_41 (qv_iload_n C dX5_drop_44 rfl (qv_callSN C (rest := []) (cb := 0) (sb := 0) (t_X7_closeGap hl rfl (by decide) hj0 a1 s5) mw_X7_closeGap lk_X5_69 st_X7_closeGap rfl (Nat.le_of_ble_eq_true rfl) (by decide) dX5_drop_45 rfl (qkV (fun s6 => (qv_aload_n C dX5_drop_48 rfl (qv_dup C dX5_drop_49 rfl (qv_getI C fl_X5_41 cl_X5 rfl (by decide) (by decide) hj0 rfl dX5_drop_50 (qv_iconst C (v := (1 : Int32)) dX5_drop_53 (by decide) (qv_isub C dX5_drop_54 (qv_putI C fl_X5_41 cl_X5 rfl (by decide) (by decide) hj0 rfl rfl rfl (qin_nar _) (qin_fits _) dX5_drop_55 (qv_let (fun s7 => (qv_iconst C (v := (1 : Int32)) dX5_drop_58 (by decide) (qv_iload_n C dX5_drop_59 rfl (qv_ishl C dX5_drop_60 (qv_iconst C (v := (1 : Int32)) dX5_drop_61 (by decide) (qv_isub C dX5_drop_62 (qv_istore_n C dX5_drop_63 (by decide) rfl (qv_iconst C (v := (0 : Int32)) dX5_drop_64 (by decide) (qv_istore_n C dX5_drop_65 (by decide) rfl (qV.weak [true, false, true, true, false] (lt_X5_drop_66 hl C hret ht hj0 qFU (((1 : Int32) <<< (a1 &&& 31)) - (1 : Int32)) (0 : Int32) s7))))))))))))))))))))))))))))))))))))))))))))))))))))))
def f_X5_copyFrom (j0 : Nat) (j1 : Nat) (s0 : qS) : Option qO :=
  qbind (f_X7_copyRow 2 j1 2 j0 s0) (qvV (fun s1 =>
  qbind (f_X7_copyRow 3 j1 3 j0 s1) (qvV (fun s2 =>
  qbind (f_X7_copyRow 4 j1 4 j0 s2) (qvV (fun s3 =>
  qbind (f_X7_copyRow 5 j1 5 j0 s3) (qvV (fun s4 =>
  qbind (f_X7_copyRow 6 j1 6 j0 s4) (qvV (fun s5 =>
  qbind (f_X7_copyRow 7 j1 7 j0 s5) (qvV (fun s6 =>
  qbind (f_X7_copyRow 8 j1 8 j0 s6) (qvV (fun s7 =>
  qlet (qu s7 1 j0 7 (s7 1 j1 7)) (fun s8 =>
  (if qbo (s8 1 j1 8) then qlet (qu s8 1 j0 8 (s8 1 j1 8)) (fun s9 =>
  (some (.inl none, s9))) else none)))) qE0)) qE0)) qE0)) qE0)) qE0)) qE0)) qE0
set_option maxRecDepth 100000 in
set_option maxHeartbeats 4000000 in
theorem t_X5_copyFrom {g : qG} {l : Launch} (hl : l.stackTraces = false) {j0 : Nat} (hj0 : j0 < 11) {j1 : Nat} (hj1 : j1 < 11) (s0 : qS) : qM g l 2 0 0 (.code yX5_copyFrom cX5_copyFrom 2 none) yX5_copyFrom [qR 1 j0, qR 1 j1] s0 (f_X5_copyFrom j0 j1 s0) := by
  refine qM_of (by decide +kernel) hl (List.forall_mem_cons.mpr ⟨rfl, (List.forall_mem_cons.mpr ⟨rfl, (fun _ h => absurd h List.not_mem_nil)⟩)⟩) (Nat.le_of_ble_eq_true rfl) ?_
  intro p e s m args below meth c C hret ht
  show qV p l e _ s m args below meth c g _ _ _ _ _ 0 [some (qR 1 j0), some (qR 1 j1)] [] s0
  exact (qv_aload_n C dX5_copyFrom_0 rfl (qv_getR C (j2 := j1) fl_X5_9 cl_X5 rfl (by decide) (by decide) hj1 rfl rfl dX5_copyFrom_1 (qv_aload_n C dX5_copyFrom_4 rfl (qv_getR C (j2 := j0) fl_X5_9 cl_X5 rfl (by decide) (by decide) hj0 rfl rfl dX5_copyFrom_5 (qv_callSN C (rest := []) (cb := 0) (sb := 0) (t_X7_copyRow hl rfl (by decide) hj1 rfl (by decide) hj0 s0) mw_X7_copyRow lk_X5_37 st_X7_copyRow rfl (Nat.le_of_ble_eq_true rfl) (by decide) dX5_copyFrom_8 rfl (qkV (fun s1 => (qv_aload_n C dX5_copyFrom_11 rfl (qv_getR C (j2 := j1) fl_X5_15 cl_X5 rfl (by decide) (by decide) hj1 rfl rfl dX5_copyFrom_12 (qv_aload_n C dX5_copyFrom_15 rfl (qv_getR C (j2 := j0) fl_X5_15 cl_X5 rfl (by decide) (by decide) hj0 rfl rfl dX5_copyFrom_16 (qv_callSN C (rest := []) (cb := 0) (sb := 0) (t_X7_copyRow hl rfl (by decide) hj1 rfl (by decide) hj0 s1) mw_X7_copyRow lk_X5_37 st_X7_copyRow rfl (Nat.le_of_ble_eq_true rfl) (by decide) dX5_copyFrom_19 rfl (qkV (fun s2 => (qv_aload_n C dX5_copyFrom_22 rfl (qv_getR C (j2 := j1) fl_X5_18 cl_X5 rfl (by decide) (by decide) hj1 rfl rfl dX5_copyFrom_23 (qv_aload_n C dX5_copyFrom_26 rfl (qv_getR C (j2 := j0) fl_X5_18 cl_X5 rfl (by decide) (by decide) hj0 rfl rfl dX5_copyFrom_27 (qv_callSN C (rest := []) (cb := 0) (sb := 0) (t_X7_copyRow hl rfl (by decide) hj1 rfl (by decide) hj0 s2) mw_X7_copyRow lk_X5_37 st_X7_copyRow rfl (Nat.le_of_ble_eq_true rfl) (by decide) dX5_copyFrom_30 rfl (qkV (fun s3 => (qv_aload_n C dX5_copyFrom_33 rfl (qv_getR C (j2 := j1) fl_X5_21 cl_X5 rfl (by decide) (by decide) hj1 rfl rfl dX5_copyFrom_34 (qv_aload_n C dX5_copyFrom_37 rfl (qv_getR C (j2 := j0) fl_X5_21 cl_X5 rfl (by decide) (by decide) hj0 rfl rfl dX5_copyFrom_38 (qv_callSN C (rest := []) (cb := 0) (sb := 0) (t_X7_copyRow hl rfl (by decide) hj1 rfl (by decide) hj0 s3) mw_X7_copyRow lk_X5_37 st_X7_copyRow rfl (Nat.le_of_ble_eq_true rfl) (by decide) dX5_copyFrom_41 rfl (qkV (fun s4 => (qv_aload_n C dX5_copyFrom_44 rfl (qv_getR C (j2 := j1) fl_X5_24 cl_X5 rfl (by decide) (by decide) hj1 rfl rfl dX5_copyFrom_45 (qv_aload_n C dX5_copyFrom_48 rfl (qv_getR C (j2 := j0) fl_X5_24 cl_X5 rfl (by decide) (by decide) hj0 rfl rfl dX5_copyFrom_49 (qv_callSN C (rest := []) (cb := 0) (sb := 0) (t_X7_copyRow hl rfl (by decide) hj1 rfl (by decide) hj0 s4) mw_X7_copyRow lk_X5_37 st_X7_copyRow rfl (Nat.le_of_ble_eq_true rfl) (by decide) dX5_copyFrom_52 rfl (qkV (fun s5 => (qv_aload_n C dX5_copyFrom_55 rfl (qv_getR C (j2 := j1) fl_X5_27 cl_X5 rfl (by decide) (by decide) hj1 rfl rfl dX5_copyFrom_56 (qv_aload_n C dX5_copyFrom_59 rfl (qv_getR C (j2 := j0) fl_X5_27 cl_X5 rfl (by decide) (by decide) hj0 rfl rfl dX5_copyFrom_60 (qv_callSN C (rest := []) (cb := 0) (sb := 0) (t_X7_copyRow hl rfl (by decide) hj1 rfl (by decide) hj0 s5) mw_X7_copyRow lk_X5_37 st_X7_copyRow rfl (Nat.le_of_ble_eq_true rfl) (by decide) dX5_copyFrom_63 rfl (qkV (fun s6 => (qv_aload_n C dX5_copyFrom_66 rfl (qv_getR C (j2 := j1) fl_X5_30 cl_X5 rfl (by decide) (by decide) hj1 rfl rfl dX5_copyFrom_67 (qv_aload_n C dX5_copyFrom_70 rfl (qv_getR C (j2 := j0) fl_X5_30 cl_X5 rfl (by decide) (by decide) hj0 rfl rfl dX5_copyFrom_71 (qv_callSN C (rest := []) (cb := 0) (sb := 0) (t_X7_copyRow hl rfl (by decide) hj1 rfl (by decide) hj0 s6) mw_X7_copyRow lk_X5_37 st_X7_copyRow rfl (Nat.le_of_ble_eq_true rfl) (by decide) dX5_copyFrom_74 rfl (qkV (fun s7 => (qv_aload_n C dX5_copyFrom_77 rfl (qv_aload_n C dX5_copyFrom_78 rfl (qv_getI C fl_X5_41 cl_X5 rfl (by decide) (by decide) hj1 rfl dX5_copyFrom_79 (qv_putI C fl_X5_41 cl_X5 rfl (by decide) (by decide) hj0 rfl rfl rfl (qin_nar _) (qin_fits _) dX5_copyFrom_82 (qv_let (fun s8 => (qv_aload_n C dX5_copyFrom_85 rfl (qv_aload_n C dX5_copyFrom_86 rfl (qv_getI C fl_X5_45 cl_X5 rfl (by decide) (by decide) hj1 rfl dX5_copyFrom_87 (qv_putZ C fl_X5_45 cl_X5 rfl (by decide) (by decide) hj0 rfl rfl rfl dX5_copyFrom_90 (fun _ => (qv_let (fun s9 => (qv_vret C hret dX5_copyFrom_93)))))))))))))))))))))))))))))))))))))))))))))))))))))))))))))))
def f_X5_faultOfDuration (j0 : Nat) (a1 : Int32) (a2 : Int32) (s0 : qS) : Option qO :=
  qbind (f_X5_faultOfTask j0 a1 s0) (qvI (fun r1 s1 =>
  (if r1 = (46 : Int32) then qbind (f_X7_isWithin a2 (1 : Int32) (9 : Int32) s1) (qvI (fun r2 s2 =>
  (if r2 = 0 then (some (.inl (some (qI (97 : Int32))), s2)) else
  (some (.inl (some (qI (46 : Int32))), s2))))) qE0 else
  (some (.inl (some (qI (105 : Int32))), s1))))) qE0
set_option maxRecDepth 100000 in
set_option maxHeartbeats 4000000 in
theorem t_X5_faultOfDuration {g : qG} {l : Launch} (hl : l.stackTraces = false) {j0 : Nat} (hj0 : j0 < 11) (a1 : Int32) (a2 : Int32) (s0 : qS) : qM g l 3 0 0 (.code yX5_faultOfDuration cX5_faultOfDuration 3 (some .char)) yX5_faultOfDuration [qR 1 j0, qI a1, qI a2] s0 (f_X5_faultOfDuration j0 a1 a2 s0) := by
  refine qM_of (by decide +kernel) hl (List.forall_mem_cons.mpr ⟨rfl, (List.forall_mem_cons.mpr ⟨rfl, (List.forall_mem_cons.mpr ⟨rfl, (fun _ h => absurd h List.not_mem_nil)⟩)⟩)⟩) (Nat.le_of_ble_eq_true rfl) ?_
  intro p e s m args below meth c C hret ht
  show qV p l e _ s m args below meth c g _ _ _ _ _ 0 [some (qR 1 j0), some (qI a1), some (qI a2)] [] s0
  exact (qv_aload_n C dX5_faultOfDuration_0 rfl (qv_iload_n C dX5_faultOfDuration_1 rfl (qv_callV C (rest := []) (cb := 0) (sb := 0) (t_X5_faultOfTask hl (show j0 < 11 from hj0) a1 s0) mw_X5_faultOfTask lk_X5_53 in_X5_faultOfTask se_X5_faultOfTask rfl (by decide) hj0 rfl rfl (Nat.le_of_ble_eq_true rfl) (by decide) dX5_faultOfDuration_2 rfl (qkI (fun r1 s1 => (qv_bipush C (v := (46 : Int32)) dX5_faultOfDuration_5 (by decide) (qv_icmp_eq C (tgt := 13) dX5_faultOfDuration_7 (by decide) (fun _ => (qv_iload_n C dX5_faultOfDuration_13 rfl (qv_iconst C (v := (1 : Int32)) dX5_faultOfDuration_14 (by decide) (qv_bipush C (v := (9 : Int32)) dX5_faultOfDuration_15 (by decide) (qv_callSN C (rest := []) (cb := 0) (sb := 0) (t_X7_isWithin hl a2 (1 : Int32) (9 : Int32) s1) mw_X7_isWithin lk_X5_49 st_X7_isWithin rfl (Nat.le_of_ble_eq_true rfl) (by decide) dX5_faultOfDuration_17 rfl (qkI (fun r2 s2 => (qv_if_eq C (tgt := 28) dX5_faultOfDuration_20 (by decide) (fun _ => (qv_bipush C (v := (97 : Int32)) dX5_faultOfDuration_28 (by decide) (qv_zret! C hret (qch_nar (by decide)) dX5_faultOfDuration_30)))
  (fun _ => (qv_bipush C (v := (46 : Int32)) dX5_faultOfDuration_23 (by decide) (qv_goto C (tgt := 30) dX5_faultOfDuration_25 (by decide) (qv_zret! C hret (qch_nar (by decide)) dX5_faultOfDuration_30))))))))))))
  (fun _ => (qv_bipush C (v := (105 : Int32)) dX5_faultOfDuration_10 (by decide) (qv_zret! C hret (qch_nar (by decide)) dX5_faultOfDuration_12))))))))))
def f_X5_faultOfRelease (j0 : Nat) (a1 : Int32) (a2 : Int32) (s0 : qS) : Option qO :=
  qbind (f_X5_faultOfTask j0 a1 s0) (qvI (fun r1 s1 =>
  (if r1 = (46 : Int32) then qbind (f_X7_isWithin a2 (0 : Int32) (30 : Int32) s1) (qvI (fun r2 s2 =>
  (if r2 = 0 then (some (.inl (some (qI (97 : Int32))), s2)) else
  (some (.inl (some (qI (46 : Int32))), s2))))) qE0 else
  (some (.inl (some (qI (105 : Int32))), s1))))) qE0
set_option maxRecDepth 100000 in
set_option maxHeartbeats 4000000 in
theorem t_X5_faultOfRelease {g : qG} {l : Launch} (hl : l.stackTraces = false) {j0 : Nat} (hj0 : j0 < 11) (a1 : Int32) (a2 : Int32) (s0 : qS) : qM g l 3 0 0 (.code yX5_faultOfRelease cX5_faultOfRelease 3 (some .char)) yX5_faultOfRelease [qR 1 j0, qI a1, qI a2] s0 (f_X5_faultOfRelease j0 a1 a2 s0) := by
  refine qM_of (by decide +kernel) hl (List.forall_mem_cons.mpr ⟨rfl, (List.forall_mem_cons.mpr ⟨rfl, (List.forall_mem_cons.mpr ⟨rfl, (fun _ h => absurd h List.not_mem_nil)⟩)⟩)⟩) (Nat.le_of_ble_eq_true rfl) ?_
  intro p e s m args below meth c C hret ht
  show qV p l e _ s m args below meth c g _ _ _ _ _ 0 [some (qR 1 j0), some (qI a1), some (qI a2)] [] s0
  exact (qv_aload_n C dX5_faultOfRelease_0 rfl (qv_iload_n C dX5_faultOfRelease_1 rfl (qv_callV C (rest := []) (cb := 0) (sb := 0) (t_X5_faultOfTask hl (show j0 < 11 from hj0) a1 s0) mw_X5_faultOfTask lk_X5_53 in_X5_faultOfTask se_X5_faultOfTask rfl (by decide) hj0 rfl rfl (Nat.le_of_ble_eq_true rfl) (by decide) dX5_faultOfRelease_2 rfl (qkI (fun r1 s1 => (qv_bipush C (v := (46 : Int32)) dX5_faultOfRelease_5 (by decide) (qv_icmp_eq C (tgt := 13) dX5_faultOfRelease_7 (by decide) (fun _ => (qv_iload_n C dX5_faultOfRelease_13 rfl (qv_iconst C (v := (0 : Int32)) dX5_faultOfRelease_14 (by decide) (qv_bipush C (v := (30 : Int32)) dX5_faultOfRelease_15 (by decide) (qv_callSN C (rest := []) (cb := 0) (sb := 0) (t_X7_isWithin hl a2 (0 : Int32) (30 : Int32) s1) mw_X7_isWithin lk_X5_49 st_X7_isWithin rfl (Nat.le_of_ble_eq_true rfl) (by decide) dX5_faultOfRelease_17 rfl (qkI (fun r2 s2 => (qv_if_eq C (tgt := 28) dX5_faultOfRelease_20 (by decide) (fun _ => (qv_bipush C (v := (97 : Int32)) dX5_faultOfRelease_28 (by decide) (qv_zret! C hret (qch_nar (by decide)) dX5_faultOfRelease_30)))
  (fun _ => (qv_bipush C (v := (46 : Int32)) dX5_faultOfRelease_23 (by decide) (qv_goto C (tgt := 30) dX5_faultOfRelease_25 (by decide) (qv_zret! C hret (qch_nar (by decide)) dX5_faultOfRelease_30))))))))))))
  (fun _ => (qv_bipush C (v := (105 : Int32)) dX5_faultOfRelease_10 (by decide) (qv_zret! C hret (qch_nar (by decide)) dX5_faultOfRelease_12))))))))))
def f_X5_faultOfLimit (j0 : Nat) (a1 : Int32) (a2 : Int32) (s0 : qS) : Option qO :=
  qbind (f_X7_isWithin a1 (0 : Int32) (2 : Int32) s0) (qvI (fun r1 s1 =>
  (if r1 = 0 then (if (0 : Int32) = 0 then (some (.inl (some (qI (97 : Int32))), s1)) else
  (some (.inl (some (qI (46 : Int32))), s1))) else
  qbind (f_X7_isWithin a2 (5 : Int32) (20 : Int32) s1) (qvI (fun r2 s2 =>
  (if r2 = 0 then (if (0 : Int32) = 0 then (some (.inl (some (qI (97 : Int32))), s2)) else
  (some (.inl (some (qI (46 : Int32))), s2))) else
  (if (1 : Int32) = 0 then (some (.inl (some (qI (97 : Int32))), s2)) else
  (some (.inl (some (qI (46 : Int32))), s2)))))) qE0))) qE0
set_option maxRecDepth 100000 in
set_option maxHeartbeats 4000000 in
theorem t_X5_faultOfLimit {g : qG} {l : Launch} (hl : l.stackTraces = false) {j0 : Nat} (hj0 : j0 < 11) (a1 : Int32) (a2 : Int32) (s0 : qS) : qM g l 2 0 0 (.code yX5_faultOfLimit cX5_faultOfLimit 4 (some .char)) yX5_faultOfLimit [qR 1 j0, qI a1, qI a2] s0 (f_X5_faultOfLimit j0 a1 a2 s0) := by
  refine qM_of (by decide +kernel) hl (List.forall_mem_cons.mpr ⟨rfl, (List.forall_mem_cons.mpr ⟨rfl, (List.forall_mem_cons.mpr ⟨rfl, (fun _ h => absurd h List.not_mem_nil)⟩)⟩)⟩) (Nat.le_of_ble_eq_true rfl) ?_
  intro p e s m args below meth c C hret ht
  show qV p l e _ s m args below meth c g _ _ _ _ _ 0 [some (qR 1 j0), some (qI a1), some (qI a2), none] [] s0
  exact (qv_iload_n C dX5_faultOfLimit_0 rfl (qv_iconst C (v := (0 : Int32)) dX5_faultOfLimit_1 (by decide) (qv_iconst C (v := (2 : Int32)) dX5_faultOfLimit_2 (by decide) (qv_callSN C (rest := []) (cb := 0) (sb := 0) (t_X7_isWithin hl a1 (0 : Int32) (2 : Int32) s0) mw_X7_isWithin lk_X5_49 st_X7_isWithin rfl (Nat.le_of_ble_eq_true rfl) (by decide) dX5_faultOfLimit_3 rfl (qkI (fun r1 s1 => (qv_if_eq C (tgt := 23) dX5_faultOfLimit_6 (by decide) (fun _ => (qv_iconst C (v := (0 : Int32)) dX5_faultOfLimit_23 (by decide) (qv_istore_n C dX5_faultOfLimit_24 (by decide) rfl (qv_iload_n C dX5_faultOfLimit_25 rfl (qv_if_eq C (tgt := 34) dX5_faultOfLimit_26 (by decide) (fun _ => (qv_bipush C (v := (97 : Int32)) dX5_faultOfLimit_34 (by decide) (qv_zret! C hret (qch_nar (by decide)) dX5_faultOfLimit_36)))
  (fun _ => (qv_bipush C (v := (46 : Int32)) dX5_faultOfLimit_29 (by decide) (qv_goto C (tgt := 36) dX5_faultOfLimit_31 (by decide) (qv_zret! C hret (qch_nar (by decide)) dX5_faultOfLimit_36)))))))))
  (fun _ => (qv_iload_n C dX5_faultOfLimit_9 rfl (qv_iconst C (v := (5 : Int32)) dX5_faultOfLimit_10 (by decide) (qv_bipush C (v := (20 : Int32)) dX5_faultOfLimit_11 (by decide) (qv_callSN C (rest := []) (cb := 0) (sb := 0) (t_X7_isWithin hl a2 (5 : Int32) (20 : Int32) s1) mw_X7_isWithin lk_X5_49 st_X7_isWithin rfl (Nat.le_of_ble_eq_true rfl) (by decide) dX5_faultOfLimit_13 rfl (qkI (fun r2 s2 => (qv_if_eq C (tgt := 23) dX5_faultOfLimit_16 (by decide) (fun _ => (qv_iconst C (v := (0 : Int32)) dX5_faultOfLimit_23 (by decide) (qv_istore_n C dX5_faultOfLimit_24 (by decide) rfl (qv_iload_n C dX5_faultOfLimit_25 rfl (qv_if_eq C (tgt := 34) dX5_faultOfLimit_26 (by decide) (fun _ => (qv_bipush C (v := (97 : Int32)) dX5_faultOfLimit_34 (by decide) (qv_zret! C hret (qch_nar (by decide)) dX5_faultOfLimit_36)))
  (fun _ => (qv_bipush C (v := (46 : Int32)) dX5_faultOfLimit_29 (by decide) (qv_goto C (tgt := 36) dX5_faultOfLimit_31 (by decide) (qv_zret! C hret (qch_nar (by decide)) dX5_faultOfLimit_36)))))))))
  (fun _ => (qv_iconst C (v := (1 : Int32)) dX5_faultOfLimit_19 (by decide) (qv_goto C (tgt := 24) dX5_faultOfLimit_20 (by decide) (qv_istore_n C dX5_faultOfLimit_24 (by decide) rfl (qv_iload_n C dX5_faultOfLimit_25 rfl (qv_if_eq C (tgt := 34) dX5_faultOfLimit_26 (by decide) (fun _ => (qv_bipush C (v := (97 : Int32)) dX5_faultOfLimit_34 (by decide) (qv_zret! C hret (qch_nar (by decide)) dX5_faultOfLimit_36)))
  (fun _ => (qv_bipush C (v := (46 : Int32)) dX5_faultOfLimit_29 (by decide) (qv_goto C (tgt := 36) dX5_faultOfLimit_31 (by decide) (qv_zret! C hret (qch_nar (by decide)) dX5_faultOfLimit_36)))))))))))))))))))))))))
def b_X5_search_22 (rf : Nat → Nat → Int32 → Int32 → Int32 → qS → Option qO) (k1 : Nat) (j1 : Nat) (rk22 : Int32 → Int32 → Int32 → Int32 → qS → Option qO) (v3 : Int32) (v4 : Int32) (v5 : Int32) (v6 : Int32) (s0 : qS) : Option qO :=
  (if (12 : Int32) ≤ v6 then (some (.inl (some (qI v4)), s0)) else
  qbind (f_X7_hasBit v5 v6 s0) (qvI (fun r2 s2 =>
  (if r2 = 0 then rk22 v3 v4 v5 (v6 + (1 : Int32)) s2 else
  qbind (f_X7_hasBit v4 v6 s2) (qvI (fun r3 s3 =>
  (if r3 = 0 then qbind (rf k1 j1 v6 (v4 ||| ((1 : Int32) <<< (v6 &&& 31))) (v3 + (1 : Int32)) s3) (qvI (fun r4 s4 =>
  rk22 v3 r4 v5 (v6 + (1 : Int32)) s4)) qE0 else
  rk22 v3 v4 v5 (v6 + (1 : Int32)) s3))) qE0))) qE0)
def l_X5_search_22 (rf : Nat → Nat → Int32 → Int32 → Int32 → qS → Option qO) (k1 : Nat) (j1 : Nat) : Nat → Int32 → Int32 → Int32 → Int32 → qS → Option qO
  | 0, _, _, _, _, _ => none
  | n + 1, v3, v4, v5, v6, s0 => b_X5_search_22 rf k1 j1 (l_X5_search_22 rf k1 j1 n) v3 v4 v5 v6 s0
set_option maxRecDepth 100000 in
set_option maxHeartbeats 4000000 in
theorem bt_X5_search_22 {p : Program} {l : Launch} {e : Env} {s : State} {m : MethodId} {args : Array Value} {below : List Frame} {meth : Method} {c : Code} {g : qG} (hl : l.stackTraces = false) (C : qC p l s m meth c cX5_search 7 RX5 g) (hret : meth.sig.returnType = (some .int)) (ht : ∀ x ∈ c.exceptionTable.toList, False) {nd : Nat} (rf : Nat → Nat → Int32 → Int32 → Int32 → qS → Option qO) (hrf : ∀ {k1 j1 : Nat} (hs1 : qsh k1 = 1) (hk1 : k1 < 26) (hj1 : j1 < qn k1) (a2 : Int32) (a3 : Int32) (a4 : Int32) (s0 : qS), qM g l (4 + nd) 0 0 (.code yX5_search cX5_search 7 (some .int)) yX5_search [qR k1 j1, qI a2, qI a3, qI a4] s0 (rf k1 j1 a2 a3 a4 s0)) {k1 j1 : Nat} (hs1 : qsh k1 = 1) (hk1 : k1 < 26) (hj1 : j1 < qn k1) (rk22 : Int32 → Int32 → Int32 → Int32 → qS → Option qO) (hrk22 : ∀ (v3 : Int32) (v4 : Int32) (v5 : Int32) (v6 : Int32) (s0 : qS), qV p l e (qrm (4 + nd + 1) 0 0) s m args below meth c g 7 (qQf g below args s (qrm (4 + nd + 1) 0 0)) (rk22 v3 v4 v5 v6 s0) 0 0 22 [some (qR k1 j1), none, none, some (qI v3), some (qI v4), some (qI v5), some (qI v6)] [] s0) (v3 : Int32) (v4 : Int32) (v5 : Int32) (v6 : Int32) (s0 : qS) : qV p l e (qrm (4 + nd + 1) 0 0) s m args below meth c g 7 (qQf g below args s (qrm (4 + nd + 1) 0 0)) (b_X5_search_22 rf k1 j1 rk22 v3 v4 v5 v6 s0) 0 0 22 [some (qR k1 j1), none, none, some (qI v3), some (qI v4), some (qI v5), some (qI v6)] [] s0 :=
  (qv_iload C dX5_search_22 rfl (qv_bipush C (v := (12 : Int32)) dX5_search_24 (by decide) (qv_icmp_ge C (tgt := 73) dX5_search_26 (by decide) (fun _ => (qv_iload C dX5_search_73 rfl (qv_iret C hret dX5_search_75)))
  (fun _ => (qv_iload C dX5_search_29 rfl (qv_iload C dX5_search_31 rfl (qv_callSN C (rest := []) (cb := 0) (sb := 0) (t_X7_hasBit hl v5 v6 s0) mw_X7_hasBit lk_X5_76 st_X7_hasBit rfl (Nat.le_of_ble_eq_true rfl) (by refine ⟨?_, ?_⟩ <;> dsimp only <;> omega) dX5_search_33 rfl (qkI (fun r2 s2 => (qv_if_eq C (tgt := 67) dX5_search_36 (by decide) (fun _ => (qv_iinc C (v := (v6 + (1 : Int32))) dX5_search_67 rfl rfl (by decide) rfl (qv_goto C (tgt := 22) dX5_search_70 (by decide) (qV.weak [true, false, false, true, true, true, true] (hrk22 v3 v4 v5 (v6 + (1 : Int32)) s2)))))
  (fun _ => (qv_iload C dX5_search_39 rfl (qv_iload C dX5_search_41 rfl (qv_callSN C (rest := []) (cb := 0) (sb := 0) (t_X7_hasBit hl v4 v6 s2) mw_X7_hasBit lk_X5_76 st_X7_hasBit rfl (Nat.le_of_ble_eq_true rfl) (by refine ⟨?_, ?_⟩ <;> dsimp only <;> omega) dX5_search_43 rfl (qkI (fun r3 s3 => (qv_if_ne C (tgt := 67) dX5_search_46 (by decide) (fun _ => (qv_aload_n C dX5_search_49 rfl (qv_iload C dX5_search_50 rfl (qv_iload C dX5_search_52 rfl (qv_iconst C (v := (1 : Int32)) dX5_search_54 (by decide) (qv_iload C dX5_search_55 rfl (qv_ishl C dX5_search_57 (qv_ior C dX5_search_58 (qv_iload_n C dX5_search_59 rfl (qv_iconst C (v := (1 : Int32)) dX5_search_60 (by decide) (qv_iadd C dX5_search_61 (qv_callS C (rest := []) (cb := 0) (sb := 0) (hrf hs1 hk1 hj1 v6 (v4 ||| ((1 : Int32) <<< (v6 &&& 31))) (v3 + (1 : Int32)) s3) mw_X5_search lk_X5_79 st_X5_search rfl (Nat.le_of_ble_eq_true rfl) (by refine ⟨?_, ?_⟩ <;> dsimp only <;> omega) dX5_search_62 rfl (qkI (fun r4 s4 => (qv_istore C dX5_search_65 (by decide) rfl (qv_iinc C (v := (v6 + (1 : Int32))) dX5_search_67 rfl rfl (by decide) rfl (qv_goto C (tgt := 22) dX5_search_70 (by decide) (qV.weak [true, false, false, true, true, true, true] (hrk22 v3 r4 v5 (v6 + (1 : Int32)) s4)))))))))))))))))))
  (fun _ => (qv_iinc C (v := (v6 + (1 : Int32))) dX5_search_67 rfl rfl (by decide) rfl (qv_goto C (tgt := 22) dX5_search_70 (by decide) (qV.weak [true, false, false, true, true, true, true] (hrk22 v3 v4 v5 (v6 + (1 : Int32)) s3))))))))))))))))))))))
theorem lt_X5_search_22 {p : Program} {l : Launch} {e : Env} {s : State} {m : MethodId} {args : Array Value} {below : List Frame} {meth : Method} {c : Code} {g : qG} (hl : l.stackTraces = false) (C : qC p l s m meth c cX5_search 7 RX5 g) (hret : meth.sig.returnType = (some .int)) (ht : ∀ x ∈ c.exceptionTable.toList, False) {nd : Nat} (rf : Nat → Nat → Int32 → Int32 → Int32 → qS → Option qO) (hrf : ∀ {k1 j1 : Nat} (hs1 : qsh k1 = 1) (hk1 : k1 < 26) (hj1 : j1 < qn k1) (a2 : Int32) (a3 : Int32) (a4 : Int32) (s0 : qS), qM g l (4 + nd) 0 0 (.code yX5_search cX5_search 7 (some .int)) yX5_search [qR k1 j1, qI a2, qI a3, qI a4] s0 (rf k1 j1 a2 a3 a4 s0)) {k1 j1 : Nat} (hs1 : qsh k1 = 1) (hk1 : k1 < 26) (hj1 : j1 < qn k1) : ∀ (n : Nat) (v3 : Int32) (v4 : Int32) (v5 : Int32) (v6 : Int32) (s0 : qS), qV p l e (qrm (4 + nd + 1) 0 0) s m args below meth c g 7 (qQf g below args s (qrm (4 + nd + 1) 0 0)) (l_X5_search_22 rf k1 j1 n v3 v4 v5 v6 s0) 0 0 22 [some (qR k1 j1), none, none, some (qI v3), some (qI v4), some (qI v5), some (qI v6)] [] s0
  | 0, _, _, _, _, _ => qV.no
  | n + 1, v3, v4, v5, v6, s0 => bt_X5_search_22 hl C hret ht rf hrf hs1 hk1 hj1 _ (lt_X5_search_22 hl C hret ht rf hrf hs1 hk1 hj1 n) v3 v4 v5 v6 s0
def fb_X5_search (rf : Nat → Nat → Int32 → Int32 → Int32 → qS → Option qO) (k1 j1 : Nat) (a2 : Int32) (a3 : Int32) (a4 : Int32) (s0 : qS) : Option qO :=
  (if a4 ≤ (12 : Int32) then qbind (f_X7_at k1 j1 a2 s0) (qvI (fun r1 s1 =>
  l_X5_search_22 rf k1 j1 qFU a4 a3 r1 (0 : Int32) s1)) qE0 else
  (some (.inl (some (qI a3)), s0)))
def fn_X5_search : Nat → Nat → Nat → Int32 → Int32 → Int32 → qS → Option qO
  | 0, _, _, _, _, _, _ => none
  | n + 1, k1, j1, a2, a3, a4, s0 => fb_X5_search (fn_X5_search n) k1 j1 a2 a3 a4 s0
set_option maxRecDepth 100000 in
set_option maxHeartbeats 4000000 in
theorem tb_X5_search {g : qG} {l : Launch} (hl : l.stackTraces = false) {nd : Nat} (rf : Nat → Nat → Int32 → Int32 → Int32 → qS → Option qO) (hrf : ∀ {k1 j1 : Nat} (hs1 : qsh k1 = 1) (hk1 : k1 < 26) (hj1 : j1 < qn k1) (a2 : Int32) (a3 : Int32) (a4 : Int32) (s0 : qS), qM g l (4 + nd) 0 0 (.code yX5_search cX5_search 7 (some .int)) yX5_search [qR k1 j1, qI a2, qI a3, qI a4] s0 (rf k1 j1 a2 a3 a4 s0)) {k1 j1 : Nat} (hs1 : qsh k1 = 1) (hk1 : k1 < 26) (hj1 : j1 < qn k1) (a2 : Int32) (a3 : Int32) (a4 : Int32) (s0 : qS) : qM g l (4 + nd + 1) 0 0 (.code yX5_search cX5_search 7 (some .int)) yX5_search [qR k1 j1, qI a2, qI a3, qI a4] s0 (fb_X5_search rf k1 j1 a2 a3 a4 s0) := by
  refine qM_of (by decide +kernel) hl (List.forall_mem_cons.mpr ⟨rfl, (List.forall_mem_cons.mpr ⟨rfl, (List.forall_mem_cons.mpr ⟨rfl, (List.forall_mem_cons.mpr ⟨rfl, (fun _ h => absurd h List.not_mem_nil)⟩)⟩)⟩)⟩) (Nat.le_of_ble_eq_true rfl) ?_
  intro p e s m args below meth c C hret ht
  show qV p l e _ s m args below meth c g _ _ _ _ _ 0 [some (qR k1 j1), some (qI a2), some (qI a3), some (qI a4), none, none, none] [] s0
  exact (qv_iload_n C dX5_search_0 rfl (qv_istore C dX5_search_1 (by decide) rfl (qv_iload_n C dX5_search_3 rfl (qv_bipush C (v := (12 : Int32)) dX5_search_4 (by decide) (qv_icmp_le C (tgt := 12) dX5_search_6 (by decide) (fun _ => (qv_aload_n C dX5_search_12 rfl (qv_iload_n C dX5_search_13 rfl (qv_callSN C (rest := []) (cb := 0) (sb := 0) (t_X7_at hl hs1 hk1 hj1 a2 s0) mw_X7_at lk_X5_72 st_X7_at rfl (Nat.le_of_ble_eq_true rfl) (by refine ⟨?_, ?_⟩ <;> dsimp only <;> omega) dX5_search_14 rfl (qkI (fun r1 s1 => (qv_istore C dX5_search_17 (by decide) rfl (qv_iconst C (v := (0 : Int32)) dX5_search_19 (by decide) (qv_istore C dX5_search_20 (by decide) rfl (qV.weak [true, false, false, true, true, true, true] (lt_X5_search_22 hl C hret ht rf hrf hs1 hk1 hj1 qFU a4 a3 r1 (0 : Int32) s1)))))))))))
  (fun _ => (qv_iload C dX5_search_9 rfl (qv_iret C hret dX5_search_11))))))))
theorem tn_X5_search {g : qG} {l : Launch} (hl : l.stackTraces = false) : ∀ (n : Nat) {k1 j1 : Nat} (hs1 : qsh k1 = 1) (hk1 : k1 < 26) (hj1 : j1 < qn k1) (a2 : Int32) (a3 : Int32) (a4 : Int32) (s0 : qS), qM g l (4 + n) 0 0 (.code yX5_search cX5_search 7 (some .int)) yX5_search [qR k1 j1, qI a2, qI a3, qI a4] s0 (fn_X5_search n k1 j1 a2 a3 a4 s0)
  | 0, _, _, _, _, _, _, _, _, _ => fun r hr => by cases hr
  | n + 1, k1, j1, hs1, hk1, hj1, a2, a3, a4, s0 => tb_X5_search hl (fn_X5_search n) (tn_X5_search hl n) hs1 hk1 hj1 a2 a3 a4 s0
def f_X5_search (k1 j1 : Nat) (a2 : Int32) (a3 : Int32) (a4 : Int32) (s0 : qS) : Option qO := fn_X5_search 16 k1 j1 a2 a3 a4 s0
theorem t_X5_search {g : qG} {l : Launch} (hl : l.stackTraces = false) {k1 j1 : Nat} (hs1 : qsh k1 = 1) (hk1 : k1 < 26) (hj1 : j1 < qn k1) (a2 : Int32) (a3 : Int32) (a4 : Int32) (s0 : qS) : qM g l 20 0 0 (.code yX5_search cX5_search 7 (some .int)) yX5_search [qR k1 j1, qI a2, qI a3, qI a4] s0 (f_X5_search k1 j1 a2 a3 a4 s0) := tn_X5_search hl 16 hs1 hk1 hj1 a2 a3 a4 s0
def f_X5_reaches (j0 : Nat) (a1 : Int32) (a2 : Int32) (s0 : qS) : Option qO :=
  qbind (f_X5_search 6 j0 a1 (0 : Int32) (0 : Int32) s0) (qvI (fun r1 s1 =>
  qbind (f_X7_hasBit r1 a2 s1) (qvI (fun r2 s2 =>
  (if qbo r2 then some (.inl (some (qI r2)), s2) else none))) qE0)) qE0
set_option maxRecDepth 100000 in
set_option maxHeartbeats 4000000 in
theorem t_X5_reaches {g : qG} {l : Launch} (hl : l.stackTraces = false) {j0 : Nat} (hj0 : j0 < 11) (a1 : Int32) (a2 : Int32) (s0 : qS) : qM g l 21 0 0 (.code yX5_reaches cX5_reaches 3 (some .boolean)) yX5_reaches [qR 1 j0, qI a1, qI a2] s0 (f_X5_reaches j0 a1 a2 s0) := by
  refine qM_of (by decide +kernel) hl (List.forall_mem_cons.mpr ⟨rfl, (List.forall_mem_cons.mpr ⟨rfl, (List.forall_mem_cons.mpr ⟨rfl, (fun _ h => absurd h List.not_mem_nil)⟩)⟩)⟩) (Nat.le_of_ble_eq_true rfl) ?_
  intro p e s m args below meth c C hret ht
  show qV p l e _ s m args below meth c g _ _ _ _ _ 0 [some (qR 1 j0), some (qI a1), some (qI a2)] [] s0
  exact (qv_aload_n C dX5_reaches_0 rfl (qv_getR C (j2 := j0) fl_X5_24 cl_X5 rfl (by decide) (by decide) hj0 rfl rfl dX5_reaches_1 (qv_iload_n C dX5_reaches_4 rfl (qv_iconst C (v := (0 : Int32)) dX5_reaches_5 (by decide) (qv_iconst C (v := (0 : Int32)) dX5_reaches_6 (by decide) (qv_callS C (rest := []) (cb := 0) (sb := 0) (t_X5_search hl rfl (by decide) hj0 a1 (0 : Int32) (0 : Int32) s0) mw_X5_search lk_X5_79 st_X5_search rfl (Nat.le_of_ble_eq_true rfl) (by decide) dX5_reaches_7 rfl (qkI (fun r1 s1 => (qv_iload_n C dX5_reaches_10 rfl (qv_callSN C (rest := []) (cb := 0) (sb := 0) (t_X7_hasBit hl r1 a2 s1) mw_X7_hasBit lk_X5_76 st_X7_hasBit rfl (Nat.le_of_ble_eq_true rfl) (by decide) dX5_reaches_11 rfl (qkI (fun r2 s2 => (qv_bret C hret dX5_reaches_14)))))))))))))
def f_X5_faultOfLinking (j0 : Nat) (a1 : Int32) (a2 : Int32) (s0 : qS) : Option qO :=
  qbind (f_X5_faultOfPair j0 a1 a2 s0) (qvI (fun r1 s1 =>
  (if r1 = (46 : Int32) then (if a1 = a2 then (some (.inl (some (qI (97 : Int32))), s1)) else
  qbind (f_X5_reaches j0 a2 a1 s1) (qvI (fun r2 s2 =>
  (if r2 = 0 then (some (.inl (some (qI (46 : Int32))), s2)) else
  (some (.inl (some (qI (117 : Int32))), s2))))) qE0) else
  (some (.inl (some (qI (105 : Int32))), s1))))) qE0
set_option maxRecDepth 100000 in
set_option maxHeartbeats 4000000 in
theorem t_X5_faultOfLinking {g : qG} {l : Launch} (hl : l.stackTraces = false) {j0 : Nat} (hj0 : j0 < 11) (a1 : Int32) (a2 : Int32) (s0 : qS) : qM g l 22 0 0 (.code yX5_faultOfLinking cX5_faultOfLinking 3 (some .char)) yX5_faultOfLinking [qR 1 j0, qI a1, qI a2] s0 (f_X5_faultOfLinking j0 a1 a2 s0) := by
  refine qM_of (by decide +kernel) hl (List.forall_mem_cons.mpr ⟨rfl, (List.forall_mem_cons.mpr ⟨rfl, (List.forall_mem_cons.mpr ⟨rfl, (fun _ h => absurd h List.not_mem_nil)⟩)⟩)⟩) (Nat.le_of_ble_eq_true rfl) ?_
  intro p e s m args below meth c C hret ht
  show qV p l e _ s m args below meth c g _ _ _ _ _ 0 [some (qR 1 j0), some (qI a1), some (qI a2)] [] s0
  exact (qv_aload_n C dX5_faultOfLinking_0 rfl (qv_iload_n C dX5_faultOfLinking_1 rfl (qv_iload_n C dX5_faultOfLinking_2 rfl (qv_callV C (rest := []) (cb := 0) (sb := 0) (t_X5_faultOfPair hl (show j0 < 11 from hj0) a1 a2 s0) mw_X5_faultOfPair lk_X5_57 in_X5_faultOfPair se_X5_faultOfPair rfl (by decide) hj0 rfl rfl (Nat.le_of_ble_eq_true rfl) (by decide) dX5_faultOfLinking_3 rfl (qkI (fun r1 s1 => (qv_bipush C (v := (46 : Int32)) dX5_faultOfLinking_6 (by decide) (qv_icmp_eq C (tgt := 14) dX5_faultOfLinking_8 (by decide) (fun _ => (qv_iload_n C dX5_faultOfLinking_14 rfl (qv_iload_n C dX5_faultOfLinking_15 rfl (qv_icmp_ne C (tgt := 22) dX5_faultOfLinking_16 (by decide) (fun _ => (qv_bipush C (v := (97 : Int32)) dX5_faultOfLinking_19 (by decide) (qv_zret! C hret (qch_nar (by decide)) dX5_faultOfLinking_21)))
  (fun _ => (qv_aload_n C dX5_faultOfLinking_22 rfl (qv_iload_n C dX5_faultOfLinking_23 rfl (qv_iload_n C dX5_faultOfLinking_24 rfl (qv_callV C (rest := []) (cb := 0) (sb := 0) (t_X5_reaches hl (show j0 < 11 from hj0) a2 a1 s1) mw_X5_reaches lk_X5_61 in_X5_reaches se_X5_reaches rfl (by decide) hj0 rfl rfl (Nat.le_of_ble_eq_true rfl) (by decide) dX5_faultOfLinking_25 rfl (qkI (fun r2 s2 => (qv_if_eq C (tgt := 36) dX5_faultOfLinking_28 (by decide) (fun _ => (qv_bipush C (v := (46 : Int32)) dX5_faultOfLinking_36 (by decide) (qv_zret! C hret (qch_nar (by decide)) dX5_faultOfLinking_38)))
  (fun _ => (qv_bipush C (v := (117 : Int32)) dX5_faultOfLinking_31 (by decide) (qv_goto C (tgt := 38) dX5_faultOfLinking_33 (by decide) (qv_zret! C hret (qch_nar (by decide)) dX5_faultOfLinking_38))))))))))))))))
  (fun _ => (qv_bipush C (v := (105 : Int32)) dX5_faultOfLinking_11 (by decide) (qv_zret! C hret (qch_nar (by decide)) dX5_faultOfLinking_13)))))))))))
