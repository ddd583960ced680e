/-! the reference, a (printed by wip/whole/gen) -/
def f_X8_thrown  (s0 : qS) : Option qO :=
  (some (.inl (some (qI (s0 26 0 17))), s0))
set_option maxRecDepth 100000 in
set_option maxHeartbeats 4000000 in
theorem t_X8_thrown {g : qG} {l : Launch} (hl : l.stackTraces = false)  (s0 : qS) : qM g l 1 0 0 (.code yX8_thrown cX8_thrown 1 (some .int)) yX8_thrown [qR 26 0] s0 (f_X8_thrown  s0) := by
  refine qM_of (by decide +kernel) hl (List.forall_mem_cons.mpr ⟨rfl, (fun _ h => absurd h List.not_mem_nil)⟩) (Nat.le_of_ble_eq_true rfl) ?_
  intro p e s m args below meth c C hret ht
  show qV p l e _ s m args below meth c g _ _ _ _ _ 0 [some (qR 26 0)] [] s0
  exact (qv_aload_n C dX8_thrown_0 rfl (qv_getI C fl_X8_50 cl_X8 rfl (by decide) (by decide) (by decide) rfl dX8_thrown_1 (qv_iret C hret dX8_thrown_4)))
def f_X8_isIn (a1 : Int32) (a2 : Int32) (a3 : Int32) (s0 : qS) : Option qO :=
  (if a1 < a2 then (some (.inl (some (qI (0 : Int32))), s0)) else
  (if a3 < a1 then (some (.inl (some (qI (0 : Int32))), s0)) else
  (some (.inl (some (qI (1 : Int32))), s0))))
set_option maxRecDepth 100000 in
set_option maxHeartbeats 4000000 in
theorem t_X8_isIn {g : qG} {l : Launch} (hl : l.stackTraces = false) (a1 : Int32) (a2 : Int32) (a3 : Int32) (s0 : qS) : qM g l 1 0 0 (.code yX8_isIn cX8_isIn 3 (some .boolean)) yX8_isIn [qI a1, qI a2, qI a3] s0 (f_X8_isIn a1 a2 a3 s0) := by
  refine qM_of (by decide +kernel) hl (List.forall_mem_cons.mpr ⟨rfl, (List.forall_mem_cons.mpr ⟨rfl, (List.forall_mem_cons.mpr ⟨rfl, (fun _ h => absurd h List.not_mem_nil)⟩)⟩)⟩) (Nat.le_of_ble_eq_true rfl) ?_
  intro p e s m args below meth c C hret ht
  show qV p l e _ s m args below meth c g _ _ _ _ _ 0 [some (qI a1), some (qI a2), some (qI a3)] [] s0
  exact (qv_iload_n C dX8_isIn_0 rfl (qv_iload_n C dX8_isIn_1 rfl (qv_icmp_lt C (tgt := 14) dX8_isIn_2 (by decide) (fun _ => (qv_iconst C (v := (0 : Int32)) dX8_isIn_14 (by decide) (qv_zret! C hret (qbo_nar (by decide)) dX8_isIn_15)))
  (fun _ => (qv_iload_n C dX8_isIn_5 rfl (qv_iload_n C dX8_isIn_6 rfl (qv_icmp_gt C (tgt := 14) dX8_isIn_7 (by decide) (fun _ => (qv_iconst C (v := (0 : Int32)) dX8_isIn_14 (by decide) (qv_zret! C hret (qbo_nar (by decide)) dX8_isIn_15)))
  (fun _ => (qv_iconst C (v := (1 : Int32)) dX8_isIn_10 (by decide) (qv_goto C (tgt := 15) dX8_isIn_11 (by decide) (qv_zret! C hret (qbo_nar (by decide)) dX8_isIn_15)))))))))))
def b_X8_copies_3 (k1 : Nat) (j1 : Nat) (k3 : Nat) (j3 : Nat) (rk3 : Int32 → Int32 → Int32 → qS → Option qO) (v1 : Int32) (v3 : Int32) (v4 : Int32) (s0 : qS) : Option qO :=
  (if (77 : Int32) ≤ v4 then (some (.inl none, s0)) else
  (if qin (v1 + v4) (qlen k1) then (if qin (v3 + v4) (qlen k3) then qlet (qu s0 k3 j3 ((v3 + v4)).toNatClampNeg (s0 k1 j1 ((v1 + v4)).toNatClampNeg)) (fun s1 =>
  rk3 v1 v3 (v4 + (1 : Int32)) s1) else none) else none))
def l_X8_copies_3 (k1 : Nat) (j1 : Nat) (k3 : Nat) (j3 : Nat) : Nat → Int32 → Int32 → Int32 → qS → Option qO
  | 0, _, _, _, _ => none
  | n + 1, v1, v3, v4, s0 => b_X8_copies_3 k1 j1 k3 j3 (l_X8_copies_3 k1 j1 k3 j3 n) v1 v3 v4 s0
set_option maxRecDepth 100000 in
set_option maxHeartbeats 4000000 in
theorem bt_X8_copies_3 {p : Program} {l : Launch} {e : Env} {s : State} {m : MethodId} {args : Array Value} {below : List Frame} {meth : Method} {c : Code} {g : qG} (hl : l.stackTraces = false) (C : qC p l s m meth c cX8_copies 5 RX8 g) (hret : meth.sig.returnType = none) (ht : ∀ x ∈ c.exceptionTable.toList, False) {k1 j1 : Nat} (hs1 : qsh k1 = 1) (hk1 : k1 < 40) (hj1 : j1 < qn k1) {k3 j3 : Nat} (hs3 : qsh k3 = 1) (hk3 : k3 < 40) (hj3 : j3 < qn k3) (rk3 : Int32 → Int32 → Int32 → qS → Option qO) (hrk3 : ∀ (v1 : Int32) (v3 : Int32) (v4 : Int32) (s0 : qS), qV p l e (qrm 1 0 0) s m args below meth c g 5 (qQf g below args s (qrm 1 0 0)) (rk3 v1 v3 v4 s0) 0 0 3 [some (qR k1 j1), some (qI v1), some (qR k3 j3), some (qI v3), some (qI v4)] [] s0) (v1 : Int32) (v3 : Int32) (v4 : Int32) (s0 : qS) : qV p l e (qrm 1 0 0) s m args below meth c g 5 (qQf g below args s (qrm 1 0 0)) (b_X8_copies_3 k1 j1 k3 j3 rk3 v1 v3 v4 s0) 0 0 3 [some (qR k1 j1), some (qI v1), some (qR k3 j3), some (qI v3), some (qI v4)] [] s0 :=
  (qv_iload C dX8_copies_3 rfl (qv_bipush C (v := (77 : Int32)) dX8_copies_5 (by decide) (qv_icmp_ge C (tgt := 28) dX8_copies_7 (by decide) (fun _ => (qv_vret C hret dX8_copies_28))
  (fun _ => (qv_aload_n C dX8_copies_10 rfl (qv_iload_n C dX8_copies_11 rfl (qv_iload C dX8_copies_12 rfl (qv_iadd C dX8_copies_14 (qv_aload_n C dX8_copies_15 rfl (qv_iload_n C dX8_copies_16 rfl (qv_iload C dX8_copies_17 rfl (qv_iadd C dX8_copies_19 (qv_iald C rfl hs1 hk1 hj1 dX8_copies_20 (fun _ => (qv_iast C rfl hs3 hk3 hj3 dX8_copies_21 (fun _ => (qv_let (fun s1 => (qv_iinc C (v := (v4 + (1 : Int32))) dX8_copies_22 rfl rfl (by decide) rfl (qv_goto C (tgt := 3) dX8_copies_25 (by decide) (qV.weak [true, true, true, true, true] (hrk3 v1 v3 (v4 + (1 : Int32)) s1))))))))))))))))))))))
theorem lt_X8_copies_3 {p : Program} {l : Launch} {e : Env} {s : State} {m : MethodId} {args : Array Value} {below : List Frame} {meth : Method} {c : Code} {g : qG} (hl : l.stackTraces = false) (C : qC p l s m meth c cX8_copies 5 RX8 g) (hret : meth.sig.returnType = none) (ht : ∀ x ∈ c.exceptionTable.toList, False) {k1 j1 : Nat} (hs1 : qsh k1 = 1) (hk1 : k1 < 40) (hj1 : j1 < qn k1) {k3 j3 : Nat} (hs3 : qsh k3 = 1) (hk3 : k3 < 40) (hj3 : j3 < qn k3) : ∀ (n : Nat) (v1 : Int32) (v3 : Int32) (v4 : Int32) (s0 : qS), qV p l e (qrm 1 0 0) s m args below meth c g 5 (qQf g below args s (qrm 1 0 0)) (l_X8_copies_3 k1 j1 k3 j3 n v1 v3 v4 s0) 0 0 3 [some (qR k1 j1), some (qI v1), some (qR k3 j3), some (qI v3), some (qI v4)] [] s0
  | 0, _, _, _, _ => qV.no
  | n + 1, v1, v3, v4, s0 => bt_X8_copies_3 hl C hret ht hs1 hk1 hj1 hs3 hk3 hj3 _ (lt_X8_copies_3 hl C hret ht hs1 hk1 hj1 hs3 hk3 hj3 n) v1 v3 v4 s0
def f_X8_copies (k1 j1 : Nat) (a2 : Int32) (k3 j3 : Nat) (a4 : Int32) (s0 : qS) : Option qO :=
  l_X8_copies_3 k1 j1 k3 j3 qFU a2 a4 (0 : Int32) s0
set_option maxRecDepth 100000 in
set_option maxHeartbeats 4000000 in
theorem t_X8_copies {g : qG} {l : Launch} (hl : l.stackTraces = false) {k1 j1 : Nat} (hs1 : qsh k1 = 1) (hk1 : k1 < 40) (hj1 : j1 < qn k1) (a2 : Int32) {k3 j3 : Nat} (hs3 : qsh k3 = 1) (hk3 : k3 < 40) (hj3 : j3 < qn k3) (a4 : Int32) (s0 : qS) : qM g l 1 0 0 (.code yX8_copies cX8_copies 5 none) yX8_copies [qR k1 j1, qI a2, qR k3 j3, qI a4] s0 (f_X8_copies k1 j1 a2 k3 j3 a4 s0) := by
  refine qM_of (by decide +kernel) hl (List.forall_mem_cons.mpr ⟨rfl, (List.forall_mem_cons.mpr ⟨rfl, (List.forall_mem_cons.mpr ⟨rfl, (List.forall_mem_cons.mpr ⟨rfl, (fun _ h => absurd h List.not_mem_nil)⟩)⟩)⟩)⟩) (Nat.le_of_ble_eq_true rfl) ?_
  intro p e s m args below meth c C hret ht
  show qV p l e _ s m args below meth c g _ _ _ _ _ 0 [some (qR k1 j1), some (qI a2), some (qR k3 j3), some (qI a4), none] [] s0
  exact (qv_iconst C (v := (0 : Int32)) dX8_copies_0 (by decide) (qv_istore C dX8_copies_1 (by decide) rfl (qV.weak [true, true, true, true, true] (lt_X8_copies_3 hl C hret ht hs1 hk1 hj1 hs3 hk3 hj3 qFU a2 a4 (0 : Int32) s0))))
def f_X8_holds (a1 : Int32) (a2 : Int32) (a3 : Int32) (s0 : qS) : Option qO :=
  (if a1 = 0 then qlet (qu s0 26 0 17 (1 : Int32)) (fun s1 =>
  (if (s1 26 0 17) = 0 then (some (.inl (some (qI (1 : Int32))), s1)) else
  (some (.inl (some (qI (0 : Int32))), s1)))) else
  (if a2 = 0 then qlet (qu s0 26 0 17 (2 : Int32)) (fun s2 =>
  (if (s2 26 0 17) = 0 then (some (.inl (some (qI (1 : Int32))), s2)) else
  (some (.inl (some (qI (0 : Int32))), s2)))) else
  (if a3 = 0 then qlet (qu s0 26 0 17 (3 : Int32)) (fun s3 =>
  (if (s3 26 0 17) = 0 then (some (.inl (some (qI (1 : Int32))), s3)) else
  (some (.inl (some (qI (0 : Int32))), s3)))) else
  qlet (qu s0 26 0 17 (0 : Int32)) (fun s4 =>
  (if (s4 26 0 17) = 0 then (some (.inl (some (qI (1 : Int32))), s4)) else
  (some (.inl (some (qI (0 : Int32))), s4)))))))
set_option maxRecDepth 100000 in
set_option maxHeartbeats 4000000 in
theorem t_X8_holds {g : qG} {l : Launch} (hl : l.stackTraces = false) (a1 : Int32) (a2 : Int32) (a3 : Int32) (s0 : qS) : qM g l 1 0 0 (.code yX8_holds cX8_holds 4 (some .boolean)) yX8_holds [qR 26 0, qI a1, qI a2, qI a3] s0 (f_X8_holds a1 a2 a3 s0) := by
  refine qM_of (by decide +kernel) hl (List.forall_mem_cons.mpr ⟨rfl, (List.forall_mem_cons.mpr ⟨rfl, (List.forall_mem_cons.mpr ⟨rfl, (List.forall_mem_cons.mpr ⟨rfl, (fun _ h => absurd h List.not_mem_nil)⟩)⟩)⟩)⟩) (Nat.le_of_ble_eq_true rfl) ?_
  intro p e s m args below meth c C hret ht
  show qV p l e _ s m args below meth c g _ _ _ _ _ 0 [some (qR 26 0), some (qI a1), some (qI a2), some (qI a3)] [] s0
  exact (qv_aload_n C dX8_holds_0 rfl (qv_iload_n C dX8_holds_1 rfl (qv_if_ne C (tgt := 9) dX8_holds_2 (by decide) (fun _ => (qv_iconst C (v := (1 : Int32)) dX8_holds_5 (by decide) (qv_goto C (tgt := 26) dX8_holds_6 (by decide) (qv_putI C fl_X8_50 cl_X8 rfl (by decide) (by decide) (by decide) rfl rfl rfl (qin_nar _) (qin_fits _) dX8_holds_26 (qv_let (fun s1 => (qv_aload_n C dX8_holds_29 rfl (qv_getI C fl_X8_50 cl_X8 rfl (by decide) (by decide) (by decide) rfl dX8_holds_30 (qv_if_ne C (tgt := 40) dX8_holds_33 (by decide) (fun _ => (qv_iconst C (v := (1 : Int32)) dX8_holds_36 (by decide) (qv_goto C (tgt := 41) dX8_holds_37 (by decide) (qv_zret! C hret (qbo_nar (by decide)) dX8_holds_41))))
  (fun _ => (qv_iconst C (v := (0 : Int32)) dX8_holds_40 (by decide) (qv_zret! C hret (qbo_nar (by decide)) dX8_holds_41))))))))))))
  (fun _ => (qv_iload_n C dX8_holds_9 rfl (qv_if_ne C (tgt := 17) dX8_holds_10 (by decide) (fun _ => (qv_iconst C (v := (2 : Int32)) dX8_holds_13 (by decide) (qv_goto C (tgt := 26) dX8_holds_14 (by decide) (qv_putI C fl_X8_50 cl_X8 rfl (by decide) (by decide) (by decide) rfl rfl rfl (qin_nar _) (qin_fits _) dX8_holds_26 (qv_let (fun s2 => (qv_aload_n C dX8_holds_29 rfl (qv_getI C fl_X8_50 cl_X8 rfl (by decide) (by decide) (by decide) rfl dX8_holds_30 (qv_if_ne C (tgt := 40) dX8_holds_33 (by decide) (fun _ => (qv_iconst C (v := (1 : Int32)) dX8_holds_36 (by decide) (qv_goto C (tgt := 41) dX8_holds_37 (by decide) (qv_zret! C hret (qbo_nar (by decide)) dX8_holds_41))))
  (fun _ => (qv_iconst C (v := (0 : Int32)) dX8_holds_40 (by decide) (qv_zret! C hret (qbo_nar (by decide)) dX8_holds_41))))))))))))
  (fun _ => (qv_iload_n C dX8_holds_17 rfl (qv_if_ne C (tgt := 25) dX8_holds_18 (by decide) (fun _ => (qv_iconst C (v := (3 : Int32)) dX8_holds_21 (by decide) (qv_goto C (tgt := 26) dX8_holds_22 (by decide) (qv_putI C fl_X8_50 cl_X8 rfl (by decide) (by decide) (by decide) rfl rfl rfl (qin_nar _) (qin_fits _) dX8_holds_26 (qv_let (fun s3 => (qv_aload_n C dX8_holds_29 rfl (qv_getI C fl_X8_50 cl_X8 rfl (by decide) (by decide) (by decide) rfl dX8_holds_30 (qv_if_ne C (tgt := 40) dX8_holds_33 (by decide) (fun _ => (qv_iconst C (v := (1 : Int32)) dX8_holds_36 (by decide) (qv_goto C (tgt := 41) dX8_holds_37 (by decide) (qv_zret! C hret (qbo_nar (by decide)) dX8_holds_41))))
  (fun _ => (qv_iconst C (v := (0 : Int32)) dX8_holds_40 (by decide) (qv_zret! C hret (qbo_nar (by decide)) dX8_holds_41))))))))))))
  (fun _ => (qv_iconst C (v := (0 : Int32)) dX8_holds_25 (by decide) (qv_putI C fl_X8_50 cl_X8 rfl (by decide) (by decide) (by decide) rfl rfl rfl (qin_nar _) (qin_fits _) dX8_holds_26 (qv_let (fun s4 => (qv_aload_n C dX8_holds_29 rfl (qv_getI C fl_X8_50 cl_X8 rfl (by decide) (by decide) (by decide) rfl dX8_holds_30 (qv_if_ne C (tgt := 40) dX8_holds_33 (by decide) (fun _ => (qv_iconst C (v := (1 : Int32)) dX8_holds_36 (by decide) (qv_goto C (tgt := 41) dX8_holds_37 (by decide) (qv_zret! C hret (qbo_nar (by decide)) dX8_holds_41))))
  (fun _ => (qv_iconst C (v := (0 : Int32)) dX8_holds_40 (by decide) (qv_zret! C hret (qbo_nar (by decide)) dX8_holds_41))))))))))))))))))))
def f_X8_goes (a1 : Int32) (s0 : qS) : Option qO :=
  qbind (f_X8_holds a1 (1 : Int32) (1 : Int32) s0) (qvI (fun r1 s1 =>
  (if qbo r1 then some (.inl (some (qI r1)), s1) else none))) qE0
set_option maxRecDepth 100000 in
set_option maxHeartbeats 4000000 in
theorem t_X8_goes {g : qG} {l : Launch} (hl : l.stackTraces = false) (a1 : Int32) (s0 : qS) : qM g l 2 0 0 (.code yX8_goes cX8_goes 2 (some .boolean)) yX8_goes [qR 26 0, qI a1] s0 (f_X8_goes a1 s0) := by
  refine qM_of (by decide +kernel) hl (List.forall_mem_cons.mpr ⟨rfl, (List.forall_mem_cons.mpr ⟨rfl, (fun _ h => absurd h List.not_mem_nil)⟩)⟩) (Nat.le_of_ble_eq_true rfl) ?_
  intro p e s m args below meth c C hret ht
  show qV p l e _ s m args below meth c g _ _ _ _ _ 0 [some (qR 26 0), some (qI a1)] [] s0
  exact (qv_aload_n C dX8_goes_0 rfl (qv_iload_n C dX8_goes_1 rfl (qv_iconst C (v := (1 : Int32)) dX8_goes_2 (by decide) (qv_iconst C (v := (1 : Int32)) dX8_goes_3 (by decide) (qv_callV C (rest := []) (cb := 0) (sb := 0) (t_X8_holds hl a1 (1 : Int32) (1 : Int32) s0) mw_X8_holds lk_X8_53 in_X8_holds se_X8_holds rfl (by decide) (by decide) rfl rfl (Nat.le_of_ble_eq_true rfl) (by decide) dX8_goes_4 rfl (qkI (fun r1 s1 => (qv_bret C hret dX8_goes_7))))))))
def f_X8_begins  (s0 : qS) : Option qO :=
  qbind (f_X8_copies 27 0 (0 : Int32) 28 0 (0 : Int32) s0) (qvV (fun s1 =>
  (some (.inl none, s1)))) qE0
set_option maxRecDepth 100000 in
set_option maxHeartbeats 4000000 in
theorem t_X8_begins {g : qG} {l : Launch} (hl : l.stackTraces = false)  (s0 : qS) : qM g l 2 0 0 (.code yX8_begins cX8_begins 1 none) yX8_begins [qR 26 0] s0 (f_X8_begins  s0) := by
  refine qM_of (by decide +kernel) hl (List.forall_mem_cons.mpr ⟨rfl, (fun _ h => absurd h List.not_mem_nil)⟩) (Nat.le_of_ble_eq_true rfl) ?_
  intro p e s m args below meth c C hret ht
  show qV p l e _ s m args below meth c g _ _ _ _ _ 0 [some (qR 26 0)] [] s0
  exact (qv_aload_n C dX8_begins_0 rfl (qv_getR C (j2 := 0) fl_X8_9 cl_X8 rfl (by decide) (by decide) (by decide) rfl rfl dX8_begins_1 (qv_iconst C (v := (0 : Int32)) dX8_begins_4 (by decide) (qv_aload_n C dX8_begins_5 rfl (qv_getR C (j2 := 0) fl_X8_13 cl_X8 rfl (by decide) (by decide) (by decide) rfl rfl dX8_begins_6 (qv_iconst C (v := (0 : Int32)) dX8_begins_9 (by decide) (qv_callS C (rest := []) (cb := 0) (sb := 0) (t_X8_copies hl rfl (by decide) (by decide) (0 : Int32) rfl (by decide) (by decide) (0 : Int32) s0) mw_X8_copies lk_X8_57 st_X8_copies rfl (Nat.le_of_ble_eq_true rfl) (by decide) dX8_begins_10 rfl (qkV (fun s1 => (qv_vret C hret dX8_begins_13))))))))))
def j_X8_remembers_49 (s0 : qS) : Option qO :=
  qbind (f_X8_copies 28 0 (0 : Int32) 30 0 ((s0 26 0 5) * (77 : Int32)) s0) (qvV (fun s2 =>
  qlet (qu s2 26 0 5 ((s2 26 0 5) + (1 : Int32))) (fun s3 =>
  (some (.inl none, s3))))) qE0
set_option maxRecDepth 100000 in
set_option maxHeartbeats 4000000 in
theorem jt_X8_remembers_49 {p : Program} {l : Launch} {e : Env} {s : State} {m : MethodId} {args : Array Value} {below : List Frame} {meth : Method} {c : Code} {g : qG} (hl : l.stackTraces = false) (C : qC p l s m meth c cX8_remembers 2 RX8 g) (hret : meth.sig.returnType = none) (ht : ∀ x ∈ c.exceptionTable.toList, False)  (s0 : qS) : qV p l e (qrm 2 0 0) s m args below meth c g 2 (qQf g below args s (qrm 2 0 0)) (j_X8_remembers_49   s0) 0 0 49 [some (qR 26 0), none] [] s0 :=
  (qv_aload_n C dX8_remembers_49 rfl (qv_getR C (j2 := 0) fl_X8_13 cl_X8 rfl (by decide) (by decide) (by decide) rfl rfl dX8_remembers_50 (qv_iconst C (v := (0 : Int32)) dX8_remembers_53 (by decide) (qv_aload_n C dX8_remembers_54 rfl (qv_getR C (j2 := 0) fl_X8_19 cl_X8 rfl (by decide) (by decide) (by decide) rfl rfl dX8_remembers_55 (qv_aload_n C dX8_remembers_58 rfl (qv_getI C fl_X8_61 cl_X8 rfl (by decide) (by decide) (by decide) rfl dX8_remembers_59 (qv_bipush C (v := (77 : Int32)) dX8_remembers_62 (by decide) (qv_imul C dX8_remembers_64 (qv_callS C (rest := []) (cb := 0) (sb := 0) (t_X8_copies hl rfl (by decide) (by decide) (0 : Int32) rfl (by decide) (by decide) ((s0 26 0 5) * (77 : Int32)) s0) mw_X8_copies lk_X8_57 st_X8_copies rfl (Nat.le_of_ble_eq_true rfl) (by decide) dX8_remembers_65 rfl (qkV (fun s2 => (qv_aload_n C dX8_remembers_68 rfl (qv_dup C dX8_remembers_69 rfl (qv_getI C fl_X8_61 cl_X8 rfl (by decide) (by decide) (by decide) rfl dX8_remembers_70 (qv_iconst C (v := (1 : Int32)) dX8_remembers_73 (by decide) (qv_iadd C dX8_remembers_74 (qv_putI C fl_X8_61 cl_X8 rfl (by decide) (by decide) (by decide) rfl rfl rfl (qin_nar _) (qin_fits _) dX8_remembers_75 (qv_let (fun s3 => (qv_vret C hret dX8_remembers_78)))))))))))))))))))))
def b_X8_remembers_11 (rk11 : Int32 → qS → Option qO) (v1 : Int32) (s0 : qS) : Option qO :=
  (if (539 : Int32) ≤ v1 then qlet (qu s0 26 0 5 ((s0 26 0 5) - (1 : Int32))) (fun s1 =>
  j_X8_remembers_49   s1) else
  (if qin (v1 + (77 : Int32)) 616 then (if qin v1 616 then qlet (qu s0 30 0 (v1).toNatClampNeg (s0 30 0 ((v1 + (77 : Int32))).toNatClampNeg)) (fun s4 =>
  rk11 (v1 + (1 : Int32)) s4) else none) else none))
def l_X8_remembers_11 : Nat → Int32 → qS → Option qO
  | 0, _, _ => none
  | n + 1, v1, s0 => b_X8_remembers_11  (l_X8_remembers_11  n) v1 s0
set_option maxRecDepth 100000 in
set_option maxHeartbeats 4000000 in
theorem bt_X8_remembers_11 {p : Program} {l : Launch} {e : Env} {s : State} {m : MethodId} {args : Array Value} {below : List Frame} {meth : Method} {c : Code} {g : qG} (hl : l.stackTraces = false) (C : qC p l s m meth c cX8_remembers 2 RX8 g) (hret : meth.sig.returnType = none) (ht : ∀ x ∈ c.exceptionTable.toList, False)  (rk11 : Int32 → qS → Option qO) (hrk11 : ∀ (v1 : Int32) (s0 : qS), qV p l e (qrm 2 0 0) s m args below meth c g 2 (qQf g below args s (qrm 2 0 0)) (rk11 v1 s0) 0 0 11 [some (qR 26 0), some (qI v1)] [] s0) (v1 : Int32) (s0 : qS) : qV p l e (qrm 2 0 0) s m args below meth c g 2 (qQf g below args s (qrm 2 0 0)) (b_X8_remembers_11  rk11 v1 s0) 0 0 11 [some (qR 26 0), some (qI v1)] [] s0 :=
  (qv_iload_n C dX8_remembers_11 rfl (qv_sipush C (v := (539 : Int32)) dX8_remembers_12 (by decide) (qv_icmp_ge C (tgt := 39) dX8_remembers_15 (by decide) (fun _ => (qv_aload_n C dX8_remembers_39 rfl (qv_dup C dX8_remembers_40 rfl (qv_getI C fl_X8_61 cl_X8 rfl (by decide) (by decide) (by decide) rfl dX8_remembers_41 (qv_iconst C (v := (1 : Int32)) dX8_remembers_44 (by decide) (qv_isub C dX8_remembers_45 (qv_putI C fl_X8_61 cl_X8 rfl (by decide) (by decide) (by decide) rfl rfl rfl (qin_nar _) (qin_fits _) dX8_remembers_46 (qv_let (fun s1 => (qV.weak [true, false] (jt_X8_remembers_49 hl C hret ht   s1)))))))))))
  (fun _ => (qv_aload_n C dX8_remembers_18 rfl (qv_getR C (j2 := 0) fl_X8_19 cl_X8 rfl (by decide) (by decide) (by decide) rfl rfl dX8_remembers_19 (qv_iload_n C dX8_remembers_22 rfl (qv_aload_n C dX8_remembers_23 rfl (qv_getR C (j2 := 0) fl_X8_19 cl_X8 rfl (by decide) (by decide) (by decide) rfl rfl dX8_remembers_24 (qv_iload_n C dX8_remembers_27 rfl (qv_bipush C (v := (77 : Int32)) dX8_remembers_28 (by decide) (qv_iadd C dX8_remembers_30 (qv_iald C rfl rfl (by decide) (by decide) dX8_remembers_31 (fun _ => (qv_iast C rfl rfl (by decide) (by decide) dX8_remembers_32 (fun _ => (qv_let (fun s4 => (qv_iinc C (v := (v1 + (1 : Int32))) dX8_remembers_33 rfl rfl (by decide) rfl (qv_goto C (tgt := 11) dX8_remembers_36 (by decide) (qV.weak [true, true] (hrk11 (v1 + (1 : Int32)) s4))))))))))))))))))))))
theorem lt_X8_remembers_11 {p : Program} {l : Launch} {e : Env} {s : State} {m : MethodId} {args : Array Value} {below : List Frame} {meth : Method} {c : Code} {g : qG} (hl : l.stackTraces = false) (C : qC p l s m meth c cX8_remembers 2 RX8 g) (hret : meth.sig.returnType = none) (ht : ∀ x ∈ c.exceptionTable.toList, False)  : ∀ (n : Nat) (v1 : Int32) (s0 : qS), qV p l e (qrm 2 0 0) s m args below meth c g 2 (qQf g below args s (qrm 2 0 0)) (l_X8_remembers_11  n v1 s0) 0 0 11 [some (qR 26 0), some (qI v1)] [] s0
  | 0, _, _ => qV.no
  | n + 1, v1, s0 => bt_X8_remembers_11 hl C hret ht  _ (lt_X8_remembers_11 hl C hret ht  n) v1 s0
def f_X8_remembers  (s0 : qS) : Option qO :=
  (if (s0 26 0 5) = (8 : Int32) then l_X8_remembers_11  qFU (0 : Int32) s0 else
  j_X8_remembers_49   s0)
set_option maxRecDepth 100000 in
set_option maxHeartbeats 4000000 in
theorem t_X8_remembers {g : qG} {l : Launch} (hl : l.stackTraces = false)  (s0 : qS) : qM g l 2 0 0 (.code yX8_remembers cX8_remembers 2 none) yX8_remembers [qR 26 0] s0 (f_X8_remembers  s0) := by
  refine qM_of (by decide +kernel) hl (List.forall_mem_cons.mpr ⟨rfl, (fun _ h => absurd h List.not_mem_nil)⟩) (Nat.le_of_ble_eq_true rfl) ?_
  intro p e s m args below meth c C hret ht
  show qV p l e _ s m args below meth c g _ _ _ _ _ 0 [some (qR 26 0), none] [] s0
  exact (qv_aload_n C dX8_remembers_0 rfl (qv_getI C fl_X8_61 cl_X8 rfl (by decide) (by decide) (by decide) rfl dX8_remembers_1 (qv_bipush C (v := (8 : Int32)) dX8_remembers_4 (by decide) (qv_icmp_ne C (tgt := 49) dX8_remembers_6 (by decide) (fun _ => (qv_iconst C (v := (0 : Int32)) dX8_remembers_9 (by decide) (qv_istore_n C dX8_remembers_10 (by decide) rfl (qV.weak [true, true] (lt_X8_remembers_11 hl C hret ht  qFU (0 : Int32) s0)))))
  (fun _ => (qV.weak [true, false] (jt_X8_remembers_49 hl C hret ht   s0)))))))
def f_X8_ends (a1 : Int32) (s0 : qS) : Option qO :=
  (if (s0 26 0 17) = 0 then qbind (f_X8_remembers  s0) (qvV (fun s1 =>
  (some (.inl (some (qI a1)), s1)))) qE0 else
  qbind (f_X8_copies 28 0 (0 : Int32) 27 0 (0 : Int32) s0) (qvV (fun s2 =>
  (some (.inl (some (qI (0 : Int32))), s2)))) qE0)
set_option maxRecDepth 100000 in
set_option maxHeartbeats 4000000 in
theorem t_X8_ends {g : qG} {l : Launch} (hl : l.stackTraces = false) (a1 : Int32) (s0 : qS) : qM g l 3 0 0 (.code yX8_ends cX8_ends 2 (some .int)) yX8_ends [qR 26 0, qI a1] s0 (f_X8_ends a1 s0) := by
  refine qM_of (by decide +kernel) hl (List.forall_mem_cons.mpr ⟨rfl, (List.forall_mem_cons.mpr ⟨rfl, (fun _ h => absurd h List.not_mem_nil)⟩)⟩) (Nat.le_of_ble_eq_true rfl) ?_
  intro p e s m args below meth c C hret ht
  show qV p l e _ s m args below meth c g _ _ _ _ _ 0 [some (qR 26 0), some (qI a1)] [] s0
  exact (qv_aload_n C dX8_ends_0 rfl (qv_getI C fl_X8_50 cl_X8 rfl (by decide) (by decide) (by decide) rfl dX8_ends_1 (qv_if_eq C (tgt := 22) dX8_ends_4 (by decide) (fun _ => (qv_aload_n C dX8_ends_22 rfl (qv_callV C (rest := []) (cb := 0) (sb := 0) (t_X8_remembers hl  s0) mw_X8_remembers lk_X8_64 in_X8_remembers se_X8_remembers rfl (by decide) (by decide) rfl rfl (Nat.le_of_ble_eq_true rfl) (by decide) dX8_ends_23 rfl (qkV (fun s1 => (qv_iload_n C dX8_ends_26 rfl (qv_iret C hret dX8_ends_27)))))))
  (fun _ => (qv_aload_n C dX8_ends_7 rfl (qv_getR C (j2 := 0) fl_X8_13 cl_X8 rfl (by decide) (by decide) (by decide) rfl rfl dX8_ends_8 (qv_iconst C (v := (0 : Int32)) dX8_ends_11 (by decide) (qv_aload_n C dX8_ends_12 rfl (qv_getR C (j2 := 0) fl_X8_9 cl_X8 rfl (by decide) (by decide) (by decide) rfl rfl dX8_ends_13 (qv_iconst C (v := (0 : Int32)) dX8_ends_16 (by decide) (qv_callS C (rest := []) (cb := 0) (sb := 0) (t_X8_copies hl rfl (by decide) (by decide) (0 : Int32) rfl (by decide) (by decide) (0 : Int32) s0) mw_X8_copies lk_X8_57 st_X8_copies rfl (Nat.le_of_ble_eq_true rfl) (by decide) dX8_ends_17 rfl (qkV (fun s2 => (qv_iconst C (v := (0 : Int32)) dX8_ends_20 (by decide) (qv_iret C hret dX8_ends_21)))))))))))))))
def j_X8_undo_13 (w1 : Int32) (s0 : qS) : Option qO :=
  qbind (f_X8_goes w1 s0) (qvI (fun r1 s1 =>
  (if r1 = 0 then (some (.inl (some (qI (0 : Int32))), s1)) else
  qlet (qu s1 26 0 5 ((s1 26 0 5) - (1 : Int32))) (fun s2 =>
  qbind (f_X8_copies 30 0 ((s2 26 0 5) * (77 : Int32)) 27 0 (0 : Int32) s2) (qvV (fun s3 =>
  (some (.inl (some (qI (s3 26 0 5))), s3)))) qE0)))) qE0
set_option maxRecDepth 100000 in
set_option maxHeartbeats 4000000 in
theorem jt_X8_undo_13 {p : Program} {l : Launch} {e : Env} {s : State} {m : MethodId} {args : Array Value} {below : List Frame} {meth : Method} {c : Code} {g : qG} (hl : l.stackTraces = false) (C : qC p l s m meth c cX8_undo 1 RX8 g) (hret : meth.sig.returnType = (some .int)) (ht : ∀ x ∈ c.exceptionTable.toList, False)  (w1 : Int32) (s0 : qS) : qV p l e (qrm 3 0 0) s m args below meth c g 1 (qQf g below args s (qrm 3 0 0)) (j_X8_undo_13  w1 s0) 0 0 13 [some (qR 26 0)] [qI w1, qR 26 0] s0 :=
  (qv_callV C (rest := []) (cb := 0) (sb := 0) (t_X8_goes hl w1 s0) mw_X8_goes lk_X8_67 in_X8_goes se_X8_goes rfl (by decide) (by decide) rfl rfl (Nat.le_of_ble_eq_true rfl) (by decide) dX8_undo_13 rfl (qkI (fun r1 s1 => (qv_if_ne C (tgt := 21) dX8_undo_16 (by decide) (fun _ => (qv_iconst C (v := (0 : Int32)) dX8_undo_19 (by decide) (qv_iret C hret dX8_undo_20)))
  (fun _ => (qv_aload_n C dX8_undo_21 rfl (qv_dup C dX8_undo_22 rfl (qv_getI C fl_X8_61 cl_X8 rfl (by decide) (by decide) (by decide) rfl dX8_undo_23 (qv_iconst C (v := (1 : Int32)) dX8_undo_26 (by decide) (qv_isub C dX8_undo_27 (qv_putI C fl_X8_61 cl_X8 rfl (by decide) (by decide) (by decide) rfl rfl rfl (qin_nar _) (qin_fits _) dX8_undo_28 (qv_let (fun s2 => (qv_aload_n C dX8_undo_31 rfl (qv_getR C (j2 := 0) fl_X8_19 cl_X8 rfl (by decide) (by decide) (by decide) rfl rfl dX8_undo_32 (qv_aload_n C dX8_undo_35 rfl (qv_getI C fl_X8_61 cl_X8 rfl (by decide) (by decide) (by decide) rfl dX8_undo_36 (qv_bipush C (v := (77 : Int32)) dX8_undo_39 (by decide) (qv_imul C dX8_undo_41 (qv_aload_n C dX8_undo_42 rfl (qv_getR C (j2 := 0) fl_X8_9 cl_X8 rfl (by decide) (by decide) (by decide) rfl rfl dX8_undo_43 (qv_iconst C (v := (0 : Int32)) dX8_undo_46 (by decide) (qv_callS C (rest := []) (cb := 0) (sb := 0) (t_X8_copies hl rfl (by decide) (by decide) ((s2 26 0 5) * (77 : Int32)) rfl (by decide) (by decide) (0 : Int32) s2) mw_X8_copies lk_X8_57 st_X8_copies rfl (Nat.le_of_ble_eq_true rfl) (by decide) dX8_undo_47 rfl (qkV (fun s3 => (qv_aload_n C dX8_undo_50 rfl (qv_getI C fl_X8_61 cl_X8 rfl (by decide) (by decide) (by decide) rfl dX8_undo_51 (qv_iret C hret dX8_undo_54))))))))))))))))))))))))))))
def f_X8_undo  (s0 : qS) : Option qO :=
  (if (s0 26 0 5) ≤ 0 then j_X8_undo_13  (0 : Int32) s0 else
  j_X8_undo_13  (1 : Int32) s0)
set_option maxRecDepth 100000 in
set_option maxHeartbeats 4000000 in
theorem t_X8_undo {g : qG} {l : Launch} (hl : l.stackTraces = false)  (s0 : qS) : qM g l 3 0 0 (.code yX8_undo cX8_undo 1 (some .int)) yX8_undo [qR 26 0] s0 (f_X8_undo  s0) := by
  refine qM_of (by decide +kernel) hl (List.forall_mem_cons.mpr ⟨rfl, (fun _ h => absurd h List.not_mem_nil)⟩) (Nat.le_of_ble_eq_true rfl) ?_
  intro p e s m args below meth c C hret ht
  show qV p l e _ s m args below meth c g _ _ _ _ _ 0 [some (qR 26 0)] [] s0
  exact (qv_aload_n C dX8_undo_0 rfl (qv_aload_n C dX8_undo_1 rfl (qv_getI C fl_X8_61 cl_X8 rfl (by decide) (by decide) (by decide) rfl dX8_undo_2 (qv_if_le C (tgt := 12) dX8_undo_5 (by decide) (fun _ => (qv_iconst C (v := (0 : Int32)) dX8_undo_12 (by decide) (qV.weak [true] (jt_X8_undo_13 hl C hret ht  (0 : Int32) s0))))
  (fun _ => (qv_iconst C (v := (1 : Int32)) dX8_undo_8 (by decide) (qv_goto C (tgt := 13) dX8_undo_9 (by decide) (qV.weak [true] (jt_X8_undo_13 hl C hret ht  (1 : Int32) s0)))))))))
def f_X8_save  (s0 : qS) : Option qO :=
  qlet (qu s0 26 0 17 (0 : Int32)) (fun s1 =>
  qbind (f_X8_copies 27 0 (0 : Int32) 29 0 (0 : Int32) s1) (qvV (fun s2 =>
  qlet (qu s2 26 0 4 (1 : Int32)) (fun s3 =>
  (some (.inl (some (qI (s3 27 0 0))), s3))))) qE0)
set_option maxRecDepth 100000 in
set_option maxHeartbeats 4000000 in
theorem t_X8_save {g : qG} {l : Launch} (hl : l.stackTraces = false)  (s0 : qS) : qM g l 2 0 0 (.code yX8_save cX8_save 1 (some .int)) yX8_save [qR 26 0] s0 (f_X8_save  s0) := by
  refine qM_of (by decide +kernel) hl (List.forall_mem_cons.mpr ⟨rfl, (fun _ h => absurd h List.not_mem_nil)⟩) (Nat.le_of_ble_eq_true rfl) ?_
  intro p e s m args below meth c C hret ht
  show qV p l e _ s m args below meth c g _ _ _ _ _ 0 [some (qR 26 0)] [] s0
  exact (qv_aload_n C dX8_save_0 rfl (qv_iconst C (v := (0 : Int32)) dX8_save_1 (by decide) (qv_putI C fl_X8_50 cl_X8 rfl (by decide) (by decide) (by decide) rfl rfl rfl (qin_nar _) (qin_fits _) dX8_save_2 (qv_let (fun s1 => (qv_aload_n C dX8_save_5 rfl (qv_getR C (j2 := 0) fl_X8_9 cl_X8 rfl (by decide) (by decide) (by decide) rfl rfl dX8_save_6 (qv_iconst C (v := (0 : Int32)) dX8_save_9 (by decide) (qv_aload_n C dX8_save_10 rfl (qv_getR C (j2 := 0) fl_X8_16 cl_X8 rfl (by decide) (by decide) (by decide) rfl rfl dX8_save_11 (qv_iconst C (v := (0 : Int32)) dX8_save_14 (by decide) (qv_callS C (rest := []) (cb := 0) (sb := 0) (t_X8_copies hl rfl (by decide) (by decide) (0 : Int32) rfl (by decide) (by decide) (0 : Int32) s1) mw_X8_copies lk_X8_57 st_X8_copies rfl (Nat.le_of_ble_eq_true rfl) (by decide) dX8_save_15 rfl (qkV (fun s2 => (qv_aload_n C dX8_save_18 rfl (qv_iconst C (v := (1 : Int32)) dX8_save_19 (by decide) (qv_putI C fl_X8_71 cl_X8 rfl (by decide) (by decide) (by decide) rfl rfl rfl (qbo_nar (by decide)) (qbo_fits (by decide)) dX8_save_20 (qv_let (fun s3 => (qv_aload_n C dX8_save_23 rfl (qv_getR C (j2 := 0) fl_X8_9 cl_X8 rfl (by decide) (by decide) (by decide) rfl rfl dX8_save_24 (qv_iconst C (v := (0 : Int32)) dX8_save_27 (by decide) (qv_iald! C rfl (by decide) (by decide) (by decide) dX8_save_28 (qv_iret C hret dX8_save_29))))))))))))))))))))))))
def f_X8_restore  (s0 : qS) : Option qO :=
  qbind (f_X8_goes (s0 26 0 4) s0) (qvI (fun r1 s1 =>
  (if r1 = 0 then (some (.inl (some (qI (0 : Int32))), s1)) else
  qbind (f_X8_copies 29 0 (0 : Int32) 27 0 (0 : Int32) s1) (qvV (fun s2 =>
  qlet (qu s2 26 0 5 (0 : Int32)) (fun s3 =>
  (some (.inl (some (qI (s3 27 0 0))), s3))))) qE0))) qE0
set_option maxRecDepth 100000 in
set_option maxHeartbeats 4000000 in
theorem t_X8_restore {g : qG} {l : Launch} (hl : l.stackTraces = false)  (s0 : qS) : qM g l 3 0 0 (.code yX8_restore cX8_restore 1 (some .int)) yX8_restore [qR 26 0] s0 (f_X8_restore  s0) := by
  refine qM_of (by decide +kernel) hl (List.forall_mem_cons.mpr ⟨rfl, (fun _ h => absurd h List.not_mem_nil)⟩) (Nat.le_of_ble_eq_true rfl) ?_
  intro p e s m args below meth c C hret ht
  show qV p l e _ s m args below meth c g _ _ _ _ _ 0 [some (qR 26 0)] [] s0
  exact (qv_aload_n C dX8_restore_0 rfl (qv_aload_n C dX8_restore_1 rfl (qv_getI C fl_X8_71 cl_X8 rfl (by decide) (by decide) (by decide) rfl dX8_restore_2 (qv_callV C (rest := []) (cb := 0) (sb := 0) (t_X8_goes hl (s0 26 0 4) s0) mw_X8_goes lk_X8_67 in_X8_goes se_X8_goes rfl (by decide) (by decide) rfl rfl (Nat.le_of_ble_eq_true rfl) (by decide) dX8_restore_5 rfl (qkI (fun r1 s1 => (qv_if_ne C (tgt := 13) dX8_restore_8 (by decide) (fun _ => (qv_iconst C (v := (0 : Int32)) dX8_restore_11 (by decide) (qv_iret C hret dX8_restore_12)))
  (fun _ => (qv_aload_n C dX8_restore_13 rfl (qv_getR C (j2 := 0) fl_X8_16 cl_X8 rfl (by decide) (by decide) (by decide) rfl rfl dX8_restore_14 (qv_iconst C (v := (0 : Int32)) dX8_restore_17 (by decide) (qv_aload_n C dX8_restore_18 rfl (qv_getR C (j2 := 0) fl_X8_9 cl_X8 rfl (by decide) (by decide) (by decide) rfl rfl dX8_restore_19 (qv_iconst C (v := (0 : Int32)) dX8_restore_22 (by decide) (qv_callS C (rest := []) (cb := 0) (sb := 0) (t_X8_copies hl rfl (by decide) (by decide) (0 : Int32) rfl (by decide) (by decide) (0 : Int32) s1) mw_X8_copies lk_X8_57 st_X8_copies rfl (Nat.le_of_ble_eq_true rfl) (by decide) dX8_restore_23 rfl (qkV (fun s2 => (qv_aload_n C dX8_restore_26 rfl (qv_iconst C (v := (0 : Int32)) dX8_restore_27 (by decide) (qv_putI C fl_X8_61 cl_X8 rfl (by decide) (by decide) (by decide) rfl rfl rfl (qin_nar _) (qin_fits _) dX8_restore_28 (qv_let (fun s3 => (qv_aload_n C dX8_restore_31 rfl (qv_getR C (j2 := 0) fl_X8_9 cl_X8 rfl (by decide) (by decide) (by decide) rfl rfl dX8_restore_32 (qv_iconst C (v := (0 : Int32)) dX8_restore_35 (by decide) (qv_iald! C rfl (by decide) (by decide) (by decide) dX8_restore_36 (qv_iret C hret dX8_restore_37)))))))))))))))))))))))))))
def f_X8_isTask (a1 : Int32) (s0 : qS) : Option qO :=
  qbind (f_X8_isIn a1 (0 : Int32) ((s0 27 0 0) - (1 : Int32)) s0) (qvI (fun r1 s1 =>
  (if qbo r1 then some (.inl (some (qI r1)), s1) else none))) qE0
set_option maxRecDepth 100000 in
set_option maxHeartbeats 4000000 in
theorem t_X8_isTask {g : qG} {l : Launch} (hl : l.stackTraces = false) (a1 : Int32) (s0 : qS) : qM g l 2 0 0 (.code yX8_isTask cX8_isTask 2 (some .boolean)) yX8_isTask [qR 26 0, qI a1] s0 (f_X8_isTask a1 s0) := by
  refine qM_of (by decide +kernel) hl (List.forall_mem_cons.mpr ⟨rfl, (List.forall_mem_cons.mpr ⟨rfl, (fun _ h => absurd h List.not_mem_nil)⟩)⟩) (Nat.le_of_ble_eq_true rfl) ?_
  intro p e s m args below meth c C hret ht
  show qV p l e _ s m args below meth c g _ _ _ _ _ 0 [some (qR 26 0), some (qI a1)] [] s0
  exact (qv_iload_n C dX8_isTask_0 rfl (qv_iconst C (v := (0 : Int32)) dX8_isTask_1 (by decide) (qv_aload_n C dX8_isTask_2 rfl (qv_getR C (j2 := 0) fl_X8_9 cl_X8 rfl (by decide) (by decide) (by decide) rfl rfl dX8_isTask_3 (qv_iconst C (v := (0 : Int32)) dX8_isTask_6 (by decide) (qv_iald! C rfl (by decide) (by decide) (by decide) dX8_isTask_7 (qv_iconst C (v := (1 : Int32)) dX8_isTask_8 (by decide) (qv_isub C dX8_isTask_9 (qv_callS C (rest := []) (cb := 0) (sb := 0) (t_X8_isIn hl a1 (0 : Int32) ((s0 27 0 0) - (1 : Int32)) s0) mw_X8_isIn lk_X8_75 st_X8_isIn rfl (Nat.le_of_ble_eq_true rfl) (by decide) dX8_isTask_10 rfl (qkI (fun r1 s1 => (qv_bret C hret dX8_isTask_13))))))))))))
def f_X8_isResource (a1 : Int32) (s0 : qS) : Option qO :=
  qbind (f_X8_isIn a1 (0 : Int32) (2 : Int32) s0) (qvI (fun r1 s1 =>
  (if qbo r1 then some (.inl (some (qI r1)), s1) else none))) qE0
set_option maxRecDepth 100000 in
set_option maxHeartbeats 4000000 in
theorem t_X8_isResource {g : qG} {l : Launch} (hl : l.stackTraces = false) (a1 : Int32) (s0 : qS) : qM g l 2 0 0 (.code yX8_isResource cX8_isResource 1 (some .boolean)) yX8_isResource [qI a1] s0 (f_X8_isResource a1 s0) := by
  refine qM_of (by decide +kernel) hl (List.forall_mem_cons.mpr ⟨rfl, (fun _ h => absurd h List.not_mem_nil)⟩) (Nat.le_of_ble_eq_true rfl) ?_
  intro p e s m args below meth c C hret ht
  show qV p l e _ s m args below meth c g _ _ _ _ _ 0 [some (qI a1)] [] s0
  exact (qv_iload_n C dX8_isResource_0 rfl (qv_iconst C (v := (0 : Int32)) dX8_isResource_1 (by decide) (qv_iconst C (v := (2 : Int32)) dX8_isResource_2 (by decide) (qv_callS C (rest := []) (cb := 0) (sb := 0) (t_X8_isIn hl a1 (0 : Int32) (2 : Int32) s0) mw_X8_isIn lk_X8_75 st_X8_isIn rfl (Nat.le_of_ble_eq_true rfl) (by decide) dX8_isResource_3 rfl (qkI (fun r1 s1 => (qv_bret C hret dX8_isResource_6)))))))
def f_X8_taskAt (a1 : Int32) (s0 : qS) : Option qO :=
  (some (.inl (some (qI ((5 : Int32) + ((6 : Int32) * a1)))), s0))
set_option maxRecDepth 100000 in
set_option maxHeartbeats 4000000 in
theorem t_X8_taskAt {g : qG} {l : Launch} (hl : l.stackTraces = false) (a1 : Int32) (s0 : qS) : qM g l 1 0 0 (.code yX8_taskAt cX8_taskAt 1 (some .int)) yX8_taskAt [qI a1] s0 (f_X8_taskAt a1 s0) := by
  refine qM_of (by decide +kernel) hl (List.forall_mem_cons.mpr ⟨rfl, (fun _ h => absurd h List.not_mem_nil)⟩) (Nat.le_of_ble_eq_true rfl) ?_
  intro p e s m args below meth c C hret ht
  show qV p l e _ s m args below meth c g _ _ _ _ _ 0 [some (qI a1)] [] s0
  exact (qv_iconst C (v := (5 : Int32)) dX8_taskAt_0 (by decide) (qv_bipush C (v := (6 : Int32)) dX8_taskAt_1 (by decide) (qv_iload_n C dX8_taskAt_3 rfl (qv_imul C dX8_taskAt_4 (qv_iadd C dX8_taskAt_5 (qv_iret C hret dX8_taskAt_6))))))
def f_X8_of (a1 : Int32) (a2 : Int32) (s0 : qS) : Option qO :=
  qbind (f_X8_isTask a1 s0) (qvI (fun r1 s1 =>
  (if r1 = 0 then qbind (f_X8_taskAt (0 : Int32) s1) (qvI (fun r2 s2 =>
  (if qin (r2 + a2) 77 then (some (.inl (some (qI (s2 27 0 ((r2 + a2)).toNatClampNeg))), s2)) else none))) qE0 else
  qbind (f_X8_taskAt a1 s1) (qvI (fun r3 s3 =>
  (if qin (r3 + a2) 77 then (some (.inl (some (qI (s3 27 0 ((r3 + a2)).toNatClampNeg))), s3)) else none))) qE0))) qE0
set_option maxRecDepth 100000 in
set_option maxHeartbeats 4000000 in
theorem t_X8_of {g : qG} {l : Launch} (hl : l.stackTraces = false) (a1 : Int32) (a2 : Int32) (s0 : qS) : qM g l 3 0 0 (.code yX8_of cX8_of 3 (some .int)) yX8_of [qR 26 0, qI a1, qI a2] s0 (f_X8_of a1 a2 s0) := by
  refine qM_of (by decide +kernel) hl (List.forall_mem_cons.mpr ⟨rfl, (List.forall_mem_cons.mpr ⟨rfl, (List.forall_mem_cons.mpr ⟨rfl, (fun _ h => absurd h List.not_mem_nil)⟩)⟩)⟩) (Nat.le_of_ble_eq_true rfl) ?_
  intro p e s m args below meth c C hret ht
  show qV p l e _ s m args below meth c g _ _ _ _ _ 0 [some (qR 26 0), some (qI a1), some (qI a2)] [] s0
  exact (qv_aload_n C dX8_of_0 rfl (qv_getR C (j2 := 0) fl_X8_9 cl_X8 rfl (by decide) (by decide) (by decide) rfl rfl dX8_of_1 (qv_aload_n C dX8_of_4 rfl (qv_iload_n C dX8_of_5 rfl (qv_callV C (rest := [qR 27 0]) (cb := 0) (sb := 0) (t_X8_isTask hl a1 s0) mw_X8_isTask lk_X8_79 in_X8_isTask se_X8_isTask rfl (by decide) (by decide) rfl rfl (Nat.le_of_ble_eq_true rfl) (by decide) dX8_of_6 rfl (qkI (fun r1 s1 => (qv_if_eq C (tgt := 16) dX8_of_9 (by decide) (fun _ => (qv_iconst C (v := (0 : Int32)) dX8_of_16 (by decide) (qv_callS C (rest := [qR 27 0]) (cb := 0) (sb := 0) (t_X8_taskAt hl (0 : Int32) s1) mw_X8_taskAt lk_X8_83 st_X8_taskAt rfl (Nat.le_of_ble_eq_true rfl) (by decide) dX8_of_17 rfl (qkI (fun r2 s2 => (qv_iload_n C dX8_of_20 rfl (qv_iadd C dX8_of_21 (qv_iald C rfl rfl (by decide) (by decide) dX8_of_22 (fun _ => (qv_iret C hret dX8_of_23))))))))))
  (fun _ => (qv_iload_n C dX8_of_12 rfl (qv_goto C (tgt := 17) dX8_of_13 (by decide) (qv_callS C (rest := [qR 27 0]) (cb := 0) (sb := 0) (t_X8_taskAt hl a1 s1) mw_X8_taskAt lk_X8_83 st_X8_taskAt rfl (Nat.le_of_ble_eq_true rfl) (by decide) dX8_of_17 rfl (qkI (fun r3 s3 => (qv_iload_n C dX8_of_20 rfl (qv_iadd C dX8_of_21 (qv_iald C rfl rfl (by decide) (by decide) dX8_of_22 (fun _ => (qv_iret C hret dX8_of_23)))))))))))))))))))
def f_X8_isNeeded (a1 : Int32) (a2 : Int32) (s0 : qS) : Option qO :=
  qbind (f_X8_of a1 (4 : Int32) s0) (qvI (fun r1 s1 =>
  (if ((r1 >>> (a2 &&& 31)) &&& (1 : Int32)) = (1 : Int32) then (some (.inl (some (qI (1 : Int32))), s1)) else
  (some (.inl (some (qI (0 : Int32))), s1))))) qE0
set_option maxRecDepth 100000 in
set_option maxHeartbeats 4000000 in
theorem t_X8_isNeeded {g : qG} {l : Launch} (hl : l.stackTraces = false) (a1 : Int32) (a2 : Int32) (s0 : qS) : qM g l 4 0 0 (.code yX8_isNeeded cX8_isNeeded 3 (some .boolean)) yX8_isNeeded [qR 26 0, qI a1, qI a2] s0 (f_X8_isNeeded a1 a2 s0) := by
  refine qM_of (by decide +kernel) hl (List.forall_mem_cons.mpr ⟨rfl, (List.forall_mem_cons.mpr ⟨rfl, (List.forall_mem_cons.mpr ⟨rfl, (fun _ h => absurd h List.not_mem_nil)⟩)⟩)⟩) (Nat.le_of_ble_eq_true rfl) ?_
  intro p e s m args below meth c C hret ht
  show qV p l e _ s m args below meth c g _ _ _ _ _ 0 [some (qR 26 0), some (qI a1), some (qI a2)] [] s0
  exact (qv_aload_n C dX8_isNeeded_0 rfl (qv_iload_n C dX8_isNeeded_1 rfl (qv_iconst C (v := (4 : Int32)) dX8_isNeeded_2 (by decide) (qv_callV C (rest := []) (cb := 0) (sb := 0) (t_X8_of hl a1 (4 : Int32) s0) mw_X8_of lk_X8_87 in_X8_of se_X8_of rfl (by decide) (by decide) rfl rfl (Nat.le_of_ble_eq_true rfl) (by decide) dX8_isNeeded_3 rfl (qkI (fun r1 s1 => (qv_iload_n C dX8_isNeeded_6 rfl (qv_ishr C dX8_isNeeded_7 (qv_iconst C (v := (1 : Int32)) dX8_isNeeded_8 (by decide) (qv_iand C dX8_isNeeded_9 (qv_iconst C (v := (1 : Int32)) dX8_isNeeded_10 (by decide) (qv_icmp_ne C (tgt := 18) dX8_isNeeded_11 (by decide) (fun _ => (qv_iconst C (v := (1 : Int32)) dX8_isNeeded_14 (by decide) (qv_goto C (tgt := 19) dX8_isNeeded_15 (by decide) (qv_zret! C hret (qbo_nar (by decide)) dX8_isNeeded_19))))
  (fun _ => (qv_iconst C (v := (0 : Int32)) dX8_isNeeded_18 (by decide) (qv_zret! C hret (qbo_nar (by decide)) dX8_isNeeded_19)))))))))))))))
def b_X8_needsOf_22 (rk9 : Int32 → Int32 → qS → Option qO) (rk22 : Int32 → Int32 → Int32 → qS → Option qO) (v2 : Int32) (v3 : Int32) (v4 : Int32) (s0 : qS) : Option qO :=
  (if (s0 27 0 0) ≤ v4 then rk9 v2 (v3 + (1 : Int32)) s0 else
  (if ((v2 >>> (v4 &&& 31)) &&& (1 : Int32)) = (1 : Int32) then qbind (f_X8_of v4 (4 : Int32) s0) (qvI (fun r2 s2 =>
  rk22 (v2 ||| r2) v3 (v4 + (1 : Int32)) s2)) qE0 else
  rk22 (v2 ||| (0 : Int32)) v3 (v4 + (1 : Int32)) s0))
def l_X8_needsOf_22 (rk9 : Int32 → Int32 → qS → Option qO) : Nat → Int32 → Int32 → Int32 → qS → Option qO
  | 0, _, _, _, _ => none
  | n + 1, v2, v3, v4, s0 => b_X8_needsOf_22  rk9 (l_X8_needsOf_22  rk9 n) v2 v3 v4 s0
set_option maxRecDepth 100000 in
set_option maxHeartbeats 4000000 in
theorem bt_X8_needsOf_22 {p : Program} {l : Launch} {e : Env} {s : State} {m : MethodId} {args : Array Value} {below : List Frame} {meth : Method} {c : Code} {g : qG} (hl : l.stackTraces = false) (C : qC p l s m meth c cX8_needsOf 5 RX8 g) (hret : meth.sig.returnType = (some .int)) (ht : ∀ x ∈ c.exceptionTable.toList, False)  (rk9 : Int32 → Int32 → qS → Option qO) (hrk9 : ∀ (v2 : Int32) (v3 : Int32) (s0 : qS), qV p l e (qrm 4 0 0) s m args below meth c g 5 (qQf g below args s (qrm 4 0 0)) (rk9 v2 v3 s0) 0 0 9 [some (qR 26 0), none, some (qI v2), some (qI v3), none] [] s0) (rk22 : Int32 → Int32 → Int32 → qS → Option qO) (hrk22 : ∀ (v2 : Int32) (v3 : Int32) (v4 : Int32) (s0 : qS), qV p l e (qrm 4 0 0) s m args below meth c g 5 (qQf g below args s (qrm 4 0 0)) (rk22 v2 v3 v4 s0) 0 0 22 [some (qR 26 0), none, some (qI v2), some (qI v3), some (qI v4)] [] s0) (v2 : Int32) (v3 : Int32) (v4 : Int32) (s0 : qS) : qV p l e (qrm 4 0 0) s m args below meth c g 5 (qQf g below args s (qrm 4 0 0)) (b_X8_needsOf_22  rk9 rk22 v2 v3 v4 s0) 0 0 22 [some (qR 26 0), none, some (qI v2), some (qI v3), some (qI v4)] [] s0 :=
  (qv_iload C dX8_needsOf_22 rfl (qv_aload_n C dX8_needsOf_24 rfl (qv_getR C (j2 := 0) fl_X8_9 cl_X8 rfl (by decide) (by decide) (by decide) rfl rfl dX8_needsOf_25 (qv_iconst C (v := (0 : Int32)) dX8_needsOf_28 (by decide) (qv_iald! C rfl (by decide) (by decide) (by decide) dX8_needsOf_29 (qv_icmp_ge C (tgt := 63) dX8_needsOf_30 (by decide) (fun _ => (qv_iinc C (v := (v3 + (1 : Int32))) dX8_needsOf_63 rfl rfl (by decide) rfl (qv_goto C (tgt := 9) dX8_needsOf_66 (by decide) (qV.weak [true, false, true, true, false] (hrk9 v2 (v3 + (1 : Int32)) s0)))))
  (fun _ => (qv_iload_n C dX8_needsOf_33 rfl (qv_iload_n C dX8_needsOf_34 rfl (qv_iload C dX8_needsOf_35 rfl (qv_ishr C dX8_needsOf_37 (qv_iconst C (v := (1 : Int32)) dX8_needsOf_38 (by decide) (qv_iand C dX8_needsOf_39 (qv_iconst C (v := (1 : Int32)) dX8_needsOf_40 (by decide) (qv_icmp_ne C (tgt := 54) dX8_needsOf_41 (by decide) (fun _ => (qv_aload_n C dX8_needsOf_44 rfl (qv_iload C dX8_needsOf_45 rfl (qv_iconst C (v := (4 : Int32)) dX8_needsOf_47 (by decide) (qv_callV C (rest := [qI v2]) (cb := 0) (sb := 0) (t_X8_of hl v4 (4 : Int32) s0) mw_X8_of lk_X8_87 in_X8_of se_X8_of rfl (by decide) (by decide) rfl rfl (Nat.le_of_ble_eq_true rfl) (by decide) dX8_needsOf_48 rfl (qkI (fun r2 s2 => (qv_goto C (tgt := 55) dX8_needsOf_51 (by decide) (qv_ior C dX8_needsOf_55 (qv_istore_n C dX8_needsOf_56 (by decide) rfl (qv_iinc C (v := (v4 + (1 : Int32))) dX8_needsOf_57 rfl rfl (by decide) rfl (qv_goto C (tgt := 22) dX8_needsOf_60 (by decide) (qV.weak [true, false, true, true, true] (hrk22 (v2 ||| r2) v3 (v4 + (1 : Int32)) s2))))))))))))))
  (fun _ => (qv_iconst C (v := (0 : Int32)) dX8_needsOf_54 (by decide) (qv_ior C dX8_needsOf_55 (qv_istore_n C dX8_needsOf_56 (by decide) rfl (qv_iinc C (v := (v4 + (1 : Int32))) dX8_needsOf_57 rfl rfl (by decide) rfl (qv_goto C (tgt := 22) dX8_needsOf_60 (by decide) (qV.weak [true, false, true, true, true] (hrk22 (v2 ||| (0 : Int32)) v3 (v4 + (1 : Int32)) s0)))))))))))))))))))))))
theorem lt_X8_needsOf_22 {p : Program} {l : Launch} {e : Env} {s : State} {m : MethodId} {args : Array Value} {below : List Frame} {meth : Method} {c : Code} {g : qG} (hl : l.stackTraces = false) (C : qC p l s m meth c cX8_needsOf 5 RX8 g) (hret : meth.sig.returnType = (some .int)) (ht : ∀ x ∈ c.exceptionTable.toList, False)  (rk9 : Int32 → Int32 → qS → Option qO) (hrk9 : ∀ (v2 : Int32) (v3 : Int32) (s0 : qS), qV p l e (qrm 4 0 0) s m args below meth c g 5 (qQf g below args s (qrm 4 0 0)) (rk9 v2 v3 s0) 0 0 9 [some (qR 26 0), none, some (qI v2), some (qI v3), none] [] s0) : ∀ (n : Nat) (v2 : Int32) (v3 : Int32) (v4 : Int32) (s0 : qS), qV p l e (qrm 4 0 0) s m args below meth c g 5 (qQf g below args s (qrm 4 0 0)) (l_X8_needsOf_22  rk9 n v2 v3 v4 s0) 0 0 22 [some (qR 26 0), none, some (qI v2), some (qI v3), some (qI v4)] [] s0
  | 0, _, _, _, _ => qV.no
  | n + 1, v2, v3, v4, s0 => bt_X8_needsOf_22 hl C hret ht  rk9 hrk9 _ (lt_X8_needsOf_22 hl C hret ht  rk9 hrk9 n) v2 v3 v4 s0
def b_X8_needsOf_9 (rk9 : Int32 → Int32 → qS → Option qO) (v2 : Int32) (v3 : Int32) (s0 : qS) : Option qO :=
  (if (s0 27 0 0) ≤ v3 then (some (.inl (some (qI v2)), s0)) else
  l_X8_needsOf_22  rk9 qFU v2 v3 (0 : Int32) s0)
def l_X8_needsOf_9 : Nat → Int32 → Int32 → qS → Option qO
  | 0, _, _, _ => none
  | n + 1, v2, v3, s0 => b_X8_needsOf_9  (l_X8_needsOf_9  n) v2 v3 s0
set_option maxRecDepth 100000 in
set_option maxHeartbeats 4000000 in
theorem bt_X8_needsOf_9 {p : Program} {l : Launch} {e : Env} {s : State} {m : MethodId} {args : Array Value} {below : List Frame} {meth : Method} {c : Code} {g : qG} (hl : l.stackTraces = false) (C : qC p l s m meth c cX8_needsOf 5 RX8 g) (hret : meth.sig.returnType = (some .int)) (ht : ∀ x ∈ c.exceptionTable.toList, False)  (rk9 : Int32 → Int32 → qS → Option qO) (hrk9 : ∀ (v2 : Int32) (v3 : Int32) (s0 : qS), qV p l e (qrm 4 0 0) s m args below meth c g 5 (qQf g below args s (qrm 4 0 0)) (rk9 v2 v3 s0) 0 0 9 [some (qR 26 0), none, some (qI v2), some (qI v3), none] [] s0) (v2 : Int32) (v3 : Int32) (s0 : qS) : qV p l e (qrm 4 0 0) s m args below meth c g 5 (qQf g below args s (qrm 4 0 0)) (b_X8_needsOf_9  rk9 v2 v3 s0) 0 0 9 [some (qR 26 0), none, some (qI v2), some (qI v3), none] [] s0 :=
  (qv_iload_n C dX8_needsOf_9 rfl (qv_aload_n C dX8_needsOf_10 rfl (qv_getR C (j2 := 0) fl_X8_9 cl_X8 rfl (by decide) (by decide) (by decide) rfl rfl dX8_needsOf_11 (qv_iconst C (v := (0 : Int32)) dX8_needsOf_14 (by decide) (qv_iald! C rfl (by decide) (by decide) (by decide) dX8_needsOf_15 (qv_icmp_ge C (tgt := 69) dX8_needsOf_16 (by decide) (fun _ => (qv_iload_n C dX8_needsOf_69 rfl (qv_iret C hret dX8_needsOf_70)))
  (fun _ => (qv_iconst C (v := (0 : Int32)) dX8_needsOf_19 (by decide) (qv_istore C dX8_needsOf_20 (by decide) rfl (qV.weak [true, false, true, true, true] (lt_X8_needsOf_22 hl C hret ht  rk9 hrk9 qFU v2 v3 (0 : Int32) s0)))))))))))
theorem lt_X8_needsOf_9 {p : Program} {l : Launch} {e : Env} {s : State} {m : MethodId} {args : Array Value} {below : List Frame} {meth : Method} {c : Code} {g : qG} (hl : l.stackTraces = false) (C : qC p l s m meth c cX8_needsOf 5 RX8 g) (hret : meth.sig.returnType = (some .int)) (ht : ∀ x ∈ c.exceptionTable.toList, False)  : ∀ (n : Nat) (v2 : Int32) (v3 : Int32) (s0 : qS), qV p l e (qrm 4 0 0) s m args below meth c g 5 (qQf g below args s (qrm 4 0 0)) (l_X8_needsOf_9  n v2 v3 s0) 0 0 9 [some (qR 26 0), none, some (qI v2), some (qI v3), none] [] s0
  | 0, _, _, _ => qV.no
  | n + 1, v2, v3, s0 => bt_X8_needsOf_9 hl C hret ht  _ (lt_X8_needsOf_9 hl C hret ht  n) v2 v3 s0
def f_X8_needsOf (a1 : Int32) (s0 : qS) : Option qO :=
  qbind (f_X8_of a1 (4 : Int32) s0) (qvI (fun r1 s1 =>
  l_X8_needsOf_9  qFU r1 (0 : Int32) s1)) qE0
set_option maxRecDepth 100000 in
set_option maxHeartbeats 4000000 in
theorem t_X8_needsOf {g : qG} {l : Launch} (hl : l.stackTraces = false) (a1 : Int32) (s0 : qS) : qM g l 4 0 0 (.code yX8_needsOf cX8_needsOf 5 (some .int)) yX8_needsOf [qR 26 0, qI a1] s0 (f_X8_needsOf a1 s0) := by
  refine qM_of (by decide +kernel) hl (List.forall_mem_cons.mpr ⟨rfl, (List.forall_mem_cons.mpr ⟨rfl, (fun _ h => absurd h List.not_mem_nil)⟩)⟩) (Nat.le_of_ble_eq_true rfl) ?_
  intro p e s m args below meth c C hret ht
  show qV p l e _ s m args below meth c g _ _ _ _ _ 0 [some (qR 26 0), some (qI a1), none, none, none] [] s0
  exact (qv_aload_n C dX8_needsOf_0 rfl (qv_iload_n C dX8_needsOf_1 rfl (qv_iconst C (v := (4 : Int32)) dX8_needsOf_2 (by decide) (qv_callV C (rest := []) (cb := 0) (sb := 0) (t_X8_of hl a1 (4 : Int32) s0) mw_X8_of lk_X8_87 in_X8_of se_X8_of rfl (by decide) (by decide) rfl rfl (Nat.le_of_ble_eq_true rfl) (by decide) dX8_needsOf_3 rfl (qkI (fun r1 s1 => (qv_istore_n C dX8_needsOf_6 (by decide) rfl (qv_iconst C (v := (0 : Int32)) dX8_needsOf_7 (by decide) (qv_istore_n C dX8_needsOf_8 (by decide) rfl (qV.weak [true, false, true, true, false] (lt_X8_needsOf_9 hl C hret ht  qFU r1 (0 : Int32) s1)))))))))))
def f_X8_doesDepend (a1 : Int32) (a2 : Int32) (s0 : qS) : Option qO :=
  qbind (f_X8_needsOf a1 s0) (qvI (fun r1 s1 =>
  (if ((r1 >>> (a2 &&& 31)) &&& (1 : Int32)) = (1 : Int32) then (some (.inl (some (qI (1 : Int32))), s1)) else
  (some (.inl (some (qI (0 : Int32))), s1))))) qE0
set_option maxRecDepth 100000 in
set_option maxHeartbeats 4000000 in
theorem t_X8_doesDepend {g : qG} {l : Launch} (hl : l.stackTraces = false) (a1 : Int32) (a2 : Int32) (s0 : qS) : qM g l 5 0 0 (.code yX8_doesDepend cX8_doesDepend 3 (some .boolean)) yX8_doesDepend [qR 26 0, qI a1, qI a2] s0 (f_X8_doesDepend a1 a2 s0) := by
  refine qM_of (by decide +kernel) hl (List.forall_mem_cons.mpr ⟨rfl, (List.forall_mem_cons.mpr ⟨rfl, (List.forall_mem_cons.mpr ⟨rfl, (fun _ h => absurd h List.not_mem_nil)⟩)⟩)⟩) (Nat.le_of_ble_eq_true rfl) ?_
  intro p e s m args below meth c C hret ht
  show qV p l e _ s m args below meth c g _ _ _ _ _ 0 [some (qR 26 0), some (qI a1), some (qI a2)] [] s0
  exact (qv_aload_n C dX8_doesDepend_0 rfl (qv_iload_n C dX8_doesDepend_1 rfl (qv_callV C (rest := []) (cb := 0) (sb := 0) (t_X8_needsOf hl a1 s0) mw_X8_needsOf lk_X8_91 in_X8_needsOf se_X8_needsOf rfl (by decide) (by decide) rfl rfl (Nat.le_of_ble_eq_true rfl) (by decide) dX8_doesDepend_2 rfl (qkI (fun r1 s1 => (qv_iload_n C dX8_doesDepend_5 rfl (qv_ishr C dX8_doesDepend_6 (qv_iconst C (v := (1 : Int32)) dX8_doesDepend_7 (by decide) (qv_iand C dX8_doesDepend_8 (qv_iconst C (v := (1 : Int32)) dX8_doesDepend_9 (by decide) (qv_icmp_ne C (tgt := 17) dX8_doesDepend_10 (by decide) (fun _ => (qv_iconst C (v := (1 : Int32)) dX8_doesDepend_13 (by decide) (qv_goto C (tgt := 18) dX8_doesDepend_14 (by decide) (qv_zret! C hret (qbo_nar (by decide)) dX8_doesDepend_18))))
  (fun _ => (qv_iconst C (v := (0 : Int32)) dX8_doesDepend_17 (by decide) (qv_zret! C hret (qbo_nar (by decide)) dX8_doesDepend_18))))))))))))))
def j_X8_adds_63 (v1 : Int32) (v2 : Int32) (v3 : Int32) (v4 : Int32) (w1 : Int32) (w2 : Int32) (s0 : qS) : Option qO :=
  qbind (f_X8_holds w1 w2 (1 : Int32) s0) (qvI (fun r2 s2 =>
  (if r2 = 0 then (some (.inl (some (qI (0 : Int32))), s2)) else
  qbind (f_X8_taskAt (s2 27 0 0) s2) (qvI (fun r3 s3 =>
  (if qin (r3 + (0 : Int32)) 77 then qlet (qu s3 27 0 ((r3 + (0 : Int32))).toNatClampNeg v1) (fun s4 =>
  (if qin (r3 + (1 : Int32)) 77 then qlet (qu s4 27 0 ((r3 + (1 : Int32))).toNatClampNeg v2) (fun s5 =>
  (if qin (r3 + (2 : Int32)) 77 then qlet (qu s5 27 0 ((r3 + (2 : Int32))).toNatClampNeg v3) (fun s6 =>
  (if qin (r3 + (3 : Int32)) 77 then qlet (qu s6 27 0 ((r3 + (3 : Int32))).toNatClampNeg v4) (fun s7 =>
  (if qin (r3 + (4 : Int32)) 77 then qlet (qu s7 27 0 ((r3 + (4 : Int32))).toNatClampNeg (0 : Int32)) (fun s8 =>
  (if qin (r3 + (5 : Int32)) 77 then qlet (qu s8 27 0 ((r3 + (5 : Int32))).toNatClampNeg (-1 : Int32)) (fun s9 =>
  qlet (qu s9 27 0 0 ((s9 27 0 0) + (1 : Int32))) (fun s10 =>
  (some (.inl (some (qI ((s10 27 0 0) - (1 : Int32)))), s10)))) else none)) else none)) else none)) else none)) else none)) else none))) qE0))) qE0
set_option maxRecDepth 100000 in
set_option maxHeartbeats 4000000 in
theorem jt_X8_adds_63 {p : Program} {l : Launch} {e : Env} {s : State} {m : MethodId} {args : Array Value} {below : List Frame} {meth : Method} {c : Code} {g : qG} (hl : l.stackTraces = false) (C : qC p l s m meth c cX8_adds 7 RX8 g) (hret : meth.sig.returnType = (some .int)) (ht : ∀ x ∈ c.exceptionTable.toList, False)  (v1 : Int32) (v2 : Int32) (v3 : Int32) (v4 : Int32) (w1 : Int32) (w2 : Int32) (s0 : qS) : qV p l e (qrm 3 0 0) s m args below meth c g 7 (qQf g below args s (qrm 3 0 0)) (j_X8_adds_63  v1 v2 v3 v4 w1 w2 s0) 0 0 63 [some (qR 26 0), some (qI v1), some (qI v2), some (qI v3), some (qI v4), none, none] [qI w2, qI w1, qR 26 0] s0 :=
  (qv_iconst C (v := (1 : Int32)) dX8_adds_63 (by decide) (qv_callV C (rest := []) (cb := 0) (sb := 0) (t_X8_holds hl w1 w2 (1 : Int32) s0) mw_X8_holds lk_X8_53 in_X8_holds se_X8_holds rfl (by decide) (by decide) rfl rfl (Nat.le_of_ble_eq_true rfl) (by decide) dX8_adds_64 rfl (qkI (fun r2 s2 => (qv_if_ne C (tgt := 72) dX8_adds_67 (by decide) (fun _ => (qv_iconst C (v := (0 : Int32)) dX8_adds_70 (by decide) (qv_iret C hret dX8_adds_71)))
  (fun _ => (qv_aload_n C dX8_adds_72 rfl (qv_getR C (j2 := 0) fl_X8_9 cl_X8 rfl (by decide) (by decide) (by decide) rfl rfl dX8_adds_73 (qv_iconst C (v := (0 : Int32)) dX8_adds_76 (by decide) (qv_iald! C rfl (by decide) (by decide) (by decide) dX8_adds_77 (qv_callS C (rest := []) (cb := 0) (sb := 0) (t_X8_taskAt hl (s2 27 0 0) s2) mw_X8_taskAt lk_X8_83 st_X8_taskAt rfl (Nat.le_of_ble_eq_true rfl) (by decide) dX8_adds_78 rfl (qkI (fun r3 s3 => (qv_istore C dX8_adds_81 (by decide) rfl (qv_aload_n C dX8_adds_83 rfl (qv_getR C (j2 := 0) fl_X8_9 cl_X8 rfl (by decide) (by decide) (by decide) rfl rfl dX8_adds_84 (qv_iload C dX8_adds_87 rfl (qv_iconst C (v := (0 : Int32)) dX8_adds_89 (by decide) (qv_iadd C dX8_adds_90 (qv_iload_n C dX8_adds_91 rfl (qv_iast C rfl rfl (by decide) (by decide) dX8_adds_92 (fun _ => (qv_let (fun s4 => (qv_aload_n C dX8_adds_93 rfl (qv_getR C (j2 := 0) fl_X8_9 cl_X8 rfl (by decide) (by decide) (by decide) rfl rfl dX8_adds_94 (qv_iload C dX8_adds_97 rfl (qv_iconst C (v := (1 : Int32)) dX8_adds_99 (by decide) (qv_iadd C dX8_adds_100 (qv_iload_n C dX8_adds_101 rfl (qv_iast C rfl rfl (by decide) (by decide) dX8_adds_102 (fun _ => (qv_let (fun s5 => (qv_aload_n C dX8_adds_103 rfl (qv_getR C (j2 := 0) fl_X8_9 cl_X8 rfl (by decide) (by decide) (by decide) rfl rfl dX8_adds_104 (qv_iload C dX8_adds_107 rfl (qv_iconst C (v := (2 : Int32)) dX8_adds_109 (by decide) (qv_iadd C dX8_adds_110 (qv_iload_n C dX8_adds_111 rfl (qv_iast C rfl rfl (by decide) (by decide) dX8_adds_112 (fun _ => (qv_let (fun s6 => (qv_aload_n C dX8_adds_113 rfl (qv_getR C (j2 := 0) fl_X8_9 cl_X8 rfl (by decide) (by decide) (by decide) rfl rfl dX8_adds_114 (qv_iload C dX8_adds_117 rfl (qv_iconst C (v := (3 : Int32)) dX8_adds_119 (by decide) (qv_iadd C dX8_adds_120 (qv_iload C dX8_adds_121 rfl (qv_iast C rfl rfl (by decide) (by decide) dX8_adds_123 (fun _ => (qv_let (fun s7 => (qv_aload_n C dX8_adds_124 rfl (qv_getR C (j2 := 0) fl_X8_9 cl_X8 rfl (by decide) (by decide) (by decide) rfl rfl dX8_adds_125 (qv_iload C dX8_adds_128 rfl (qv_iconst C (v := (4 : Int32)) dX8_adds_130 (by decide) (qv_iadd C dX8_adds_131 (qv_iconst C (v := (0 : Int32)) dX8_adds_132 (by decide) (qv_iast C rfl rfl (by decide) (by decide) dX8_adds_133 (fun _ => (qv_let (fun s8 => (qv_aload_n C dX8_adds_134 rfl (qv_getR C (j2 := 0) fl_X8_9 cl_X8 rfl (by decide) (by decide) (by decide) rfl rfl dX8_adds_135 (qv_iload C dX8_adds_138 rfl (qv_iconst C (v := (5 : Int32)) dX8_adds_140 (by decide) (qv_iadd C dX8_adds_141 (qv_iconst C (v := (-1 : Int32)) dX8_adds_142 (by decide) (qv_iast C rfl rfl (by decide) (by decide) dX8_adds_143 (fun _ => (qv_let (fun s9 => (qv_aload_n C dX8_adds_144 rfl (qv_getR C (j2 := 0) fl_X8_9 cl_X8 rfl (by decide) (by decide) (by decide) rfl rfl dX8_adds_145 (qv_iconst C (v := (0 : Int32)) dX8_adds_148 (by decide) (qv_dup2 C dX8_adds_149 rfl rfl (qv_iald! C rfl (by decide) (by decide) (by decide) dX8_adds_150 (qv_iconst C (v := (1 : Int32)) dX8_adds_151 (by decide) (qv_iadd C dX8_adds_152 (qv_iast! C rfl (by decide) (by decide) (by decide) dX8_adds_153 (qv_let (fun s10 => (qv_aload_n C dX8_adds_154 rfl (qv_getR C (j2 := 0) fl_X8_9 cl_X8 rfl (by decide) (by decide) (by decide) rfl rfl dX8_adds_155 (qv_iconst C (v := (0 : Int32)) dX8_adds_158 (by decide) (qv_iald! C rfl (by decide) (by decide) (by decide) dX8_adds_159 (qv_iconst C (v := (1 : Int32)) dX8_adds_160 (by decide) (qv_isub C dX8_adds_161 (qv_iret C hret dX8_adds_162)))))))))))))))))))))))))))))))))))))))))))))))))))))))))))))))))))))))))))))))))))))))))))
def j_X8_adds_42 (v1 : Int32) (v2 : Int32) (v3 : Int32) (v4 : Int32) (w0 : Int32) (s0 : qS) : Option qO :=
  (if (12 : Int32) ≤ (s0 27 0 0) then j_X8_adds_63  v1 v2 v3 v4 w0 (0 : Int32) s0 else
  j_X8_adds_63  v1 v2 v3 v4 w0 (1 : Int32) s0)
set_option maxRecDepth 100000 in
set_option maxHeartbeats 4000000 in
theorem jt_X8_adds_42 {p : Program} {l : Launch} {e : Env} {s : State} {m : MethodId} {args : Array Value} {below : List Frame} {meth : Method} {c : Code} {g : qG} (hl : l.stackTraces = false) (C : qC p l s m meth c cX8_adds 7 RX8 g) (hret : meth.sig.returnType = (some .int)) (ht : ∀ x ∈ c.exceptionTable.toList, False)  (v1 : Int32) (v2 : Int32) (v3 : Int32) (v4 : Int32) (w0 : Int32) (s0 : qS) : qV p l e (qrm 3 0 0) s m args below meth c g 7 (qQf g below args s (qrm 3 0 0)) (j_X8_adds_42  v1 v2 v3 v4 w0 s0) 0 0 42 [some (qR 26 0), some (qI v1), some (qI v2), some (qI v3), some (qI v4), none, none] [qI w0] s0 :=
  (qv_istore C dX8_adds_42 (by decide) rfl (qv_aload_n C dX8_adds_44 rfl (qv_iload C dX8_adds_45 rfl (qv_aload_n C dX8_adds_47 rfl (qv_getR C (j2 := 0) fl_X8_9 cl_X8 rfl (by decide) (by decide) (by decide) rfl rfl dX8_adds_48 (qv_iconst C (v := (0 : Int32)) dX8_adds_51 (by decide) (qv_iald! C rfl (by decide) (by decide) (by decide) dX8_adds_52 (qv_bipush C (v := (12 : Int32)) dX8_adds_53 (by decide) (qv_icmp_ge C (tgt := 62) dX8_adds_55 (by decide) (fun _ => (qv_iconst C (v := (0 : Int32)) dX8_adds_62 (by decide) (qV.weak [true, true, true, true, true, false, false] (jt_X8_adds_63 hl C hret ht  v1 v2 v3 v4 w0 (0 : Int32) s0))))
  (fun _ => (qv_iconst C (v := (1 : Int32)) dX8_adds_58 (by decide) (qv_goto C (tgt := 63) dX8_adds_59 (by decide) (qV.weak [true, true, true, true, true, false, false] (jt_X8_adds_63 hl C hret ht  v1 v2 v3 v4 w0 (1 : Int32) s0))))))))))))))
def f_X8_adds (a1 : Int32) (a2 : Int32) (a3 : Int32) (a4 : Int32) (s0 : qS) : Option qO :=
  qbind (f_X8_isIn a1 (1 : Int32) (9 : Int32) s0) (qvI (fun r1 s1 =>
  (if r1 = 0 then j_X8_adds_42  a1 a2 a3 a4 (0 : Int32) s1 else
  qbind (f_X8_isResource a2 s1) (qvI (fun r4 s11 =>
  (if r4 = 0 then j_X8_adds_42  a1 a2 a3 a4 (0 : Int32) s11 else
  qbind (f_X8_isIn a3 (1 : Int32) (5 : Int32) s11) (qvI (fun r5 s12 =>
  (if r5 = 0 then j_X8_adds_42  a1 a2 a3 a4 (0 : Int32) s12 else
  qbind (f_X8_isIn a4 (0 : Int32) (30 : Int32) s12) (qvI (fun r6 s13 =>
  (if r6 = 0 then j_X8_adds_42  a1 a2 a3 a4 (0 : Int32) s13 else
  j_X8_adds_42  a1 a2 a3 a4 (1 : Int32) s13))) qE0))) qE0))) qE0))) qE0
set_option maxRecDepth 100000 in
set_option maxHeartbeats 4000000 in
theorem t_X8_adds {g : qG} {l : Launch} (hl : l.stackTraces = false) (a1 : Int32) (a2 : Int32) (a3 : Int32) (a4 : Int32) (s0 : qS) : qM g l 3 0 0 (.code yX8_adds cX8_adds 7 (some .int)) yX8_adds [qR 26 0, qI a1, qI a2, qI a3, qI a4] s0 (f_X8_adds a1 a2 a3 a4 s0) := by
  refine qM_of (by decide +kernel) hl (List.forall_mem_cons.mpr ⟨rfl, (List.forall_mem_cons.mpr ⟨rfl, (List.forall_mem_cons.mpr ⟨rfl, (List.forall_mem_cons.mpr ⟨rfl, (List.forall_mem_cons.mpr ⟨rfl, (fun _ h => absurd h List.not_mem_nil)⟩)⟩)⟩)⟩)⟩) (Nat.le_of_ble_eq_true rfl) ?_
  intro p e s m args below meth c C hret ht
  show qV p l e _ s m args below meth c g _ _ _ _ _ 0 [some (qR 26 0), some (qI a1), some (qI a2), some (qI a3), some (qI a4), none, none] [] s0
  exact (qv_iload_n C dX8_adds_0 rfl (qv_iconst C (v := (1 : Int32)) dX8_adds_1 (by decide) (qv_bipush C (v := (9 : Int32)) dX8_adds_2 (by decide) (qv_callS C (rest := []) (cb := 0) (sb := 0) (t_X8_isIn hl a1 (1 : Int32) (9 : Int32) s0) mw_X8_isIn lk_X8_75 st_X8_isIn rfl (Nat.le_of_ble_eq_true rfl) (by decide) dX8_adds_4 rfl (qkI (fun r1 s1 => (qv_if_eq C (tgt := 41) dX8_adds_7 (by decide) (fun _ => (qv_iconst C (v := (0 : Int32)) dX8_adds_41 (by decide) (qV.weak [true, true, true, true, true, false, false] (jt_X8_adds_42 hl C hret ht  a1 a2 a3 a4 (0 : Int32) s1))))
  (fun _ => (qv_iload_n C dX8_adds_10 rfl (qv_callS C (rest := []) (cb := 0) (sb := 0) (t_X8_isResource hl a2 s1) mw_X8_isResource lk_X8_94 st_X8_isResource rfl (Nat.le_of_ble_eq_true rfl) (by decide) dX8_adds_11 rfl (qkI (fun r4 s11 => (qv_if_eq C (tgt := 41) dX8_adds_14 (by decide) (fun _ => (qv_iconst C (v := (0 : Int32)) dX8_adds_41 (by decide) (qV.weak [true, true, true, true, true, false, false] (jt_X8_adds_42 hl C hret ht  a1 a2 a3 a4 (0 : Int32) s11))))
  (fun _ => (qv_iload_n C dX8_adds_17 rfl (qv_iconst C (v := (1 : Int32)) dX8_adds_18 (by decide) (qv_iconst C (v := (5 : Int32)) dX8_adds_19 (by decide) (qv_callS C (rest := []) (cb := 0) (sb := 0) (t_X8_isIn hl a3 (1 : Int32) (5 : Int32) s11) mw_X8_isIn lk_X8_75 st_X8_isIn rfl (Nat.le_of_ble_eq_true rfl) (by decide) dX8_adds_20 rfl (qkI (fun r5 s12 => (qv_if_eq C (tgt := 41) dX8_adds_23 (by decide) (fun _ => (qv_iconst C (v := (0 : Int32)) dX8_adds_41 (by decide) (qV.weak [true, true, true, true, true, false, false] (jt_X8_adds_42 hl C hret ht  a1 a2 a3 a4 (0 : Int32) s12))))
  (fun _ => (qv_iload C dX8_adds_26 rfl (qv_iconst C (v := (0 : Int32)) dX8_adds_28 (by decide) (qv_bipush C (v := (30 : Int32)) dX8_adds_29 (by decide) (qv_callS C (rest := []) (cb := 0) (sb := 0) (t_X8_isIn hl a4 (0 : Int32) (30 : Int32) s12) mw_X8_isIn lk_X8_75 st_X8_isIn rfl (Nat.le_of_ble_eq_true rfl) (by decide) dX8_adds_31 rfl (qkI (fun r6 s13 => (qv_if_eq C (tgt := 41) dX8_adds_34 (by decide) (fun _ => (qv_iconst C (v := (0 : Int32)) dX8_adds_41 (by decide) (qV.weak [true, true, true, true, true, false, false] (jt_X8_adds_42 hl C hret ht  a1 a2 a3 a4 (0 : Int32) s13))))
  (fun _ => (qv_iconst C (v := (1 : Int32)) dX8_adds_37 (by decide) (qv_goto C (tgt := 42) dX8_adds_38 (by decide) (qV.weak [true, true, true, true, true, false, false] (jt_X8_adds_42 hl C hret ht  a1 a2 a3 a4 (1 : Int32) s13))))))))))))))))))))))))))))))))))
def f_X8_addTask (a1 : Int32) (a2 : Int32) (a3 : Int32) (a4 : Int32) (s0 : qS) : Option qO :=
  qbind (f_X8_begins  s0) (qvV (fun s1 =>
  qbind (f_X8_adds a1 a2 a3 a4 s1) (qvI (fun r1 s2 =>
  qbind (f_X8_ends r1 s2) (qvI (fun r2 s3 =>
  (some (.inl (some (qI r2)), s3)))) qE0)) qE0)) qE0
set_option maxRecDepth 100000 in
set_option maxHeartbeats 4000000 in
theorem t_X8_addTask {g : qG} {l : Launch} (hl : l.stackTraces = false) (a1 : Int32) (a2 : Int32) (a3 : Int32) (a4 : Int32) (s0 : qS) : qM g l 4 0 0 (.code yX8_addTask cX8_addTask 5 (some .int)) yX8_addTask [qR 26 0, qI a1, qI a2, qI a3, qI a4] s0 (f_X8_addTask a1 a2 a3 a4 s0) := by
  refine qM_of (by decide +kernel) hl (List.forall_mem_cons.mpr ⟨rfl, (List.forall_mem_cons.mpr ⟨rfl, (List.forall_mem_cons.mpr ⟨rfl, (List.forall_mem_cons.mpr ⟨rfl, (List.forall_mem_cons.mpr ⟨rfl, (fun _ h => absurd h List.not_mem_nil)⟩)⟩)⟩)⟩)⟩) (Nat.le_of_ble_eq_true rfl) ?_
  intro p e s m args below meth c C hret ht
  show qV p l e _ s m args below meth c g _ _ _ _ _ 0 [some (qR 26 0), some (qI a1), some (qI a2), some (qI a3), some (qI a4)] [] s0
  exact (qv_aload_n C dX8_addTask_0 rfl (qv_callV C (rest := []) (cb := 0) (sb := 0) (t_X8_begins hl  s0) mw_X8_begins lk_X8_97 in_X8_begins se_X8_begins rfl (by decide) (by decide) rfl rfl (Nat.le_of_ble_eq_true rfl) (by decide) dX8_addTask_1 rfl (qkV (fun s1 => (qv_aload_n C dX8_addTask_4 rfl (qv_aload_n C dX8_addTask_5 rfl (qv_iload_n C dX8_addTask_6 rfl (qv_iload_n C dX8_addTask_7 rfl (qv_iload_n C dX8_addTask_8 rfl (qv_iload C dX8_addTask_9 rfl (qv_callV C (rest := [qR 26 0]) (cb := 0) (sb := 0) (t_X8_adds hl a1 a2 a3 a4 s1) mw_X8_adds lk_X8_100 in_X8_adds se_X8_adds rfl (by decide) (by decide) rfl rfl (Nat.le_of_ble_eq_true rfl) (by decide) dX8_addTask_11 rfl (qkI (fun r1 s2 => (qv_callV C (rest := []) (cb := 0) (sb := 0) (t_X8_ends hl r1 s2) mw_X8_ends lk_X8_104 in_X8_ends se_X8_ends rfl (by decide) (by decide) rfl rfl (Nat.le_of_ble_eq_true rfl) (by decide) dX8_addTask_14 rfl (qkI (fun r2 s3 => (qv_iret C hret dX8_addTask_17)))))))))))))))))
def b_X8_removes_64 (rk64 : Int32 → Int32 → qS → Option qO) (v2 : Int32) (v3 : Int32) (s0 : qS) : Option qO :=
  (if (s0 27 0 0) ≤ v3 then (some (.inl (some (qI (s0 27 0 0))), s0)) else
  qbind (f_X8_taskAt v3 s0) (qvI (fun r4 s5 =>
  (if qin (r4 + (4 : Int32)) 77 then qbind (f_X8_taskAt v3 s5) (qvI (fun r5 s6 =>
  (if qin (r5 + (4 : Int32)) 77 then qlet (qu s6 27 0 ((r5 + (4 : Int32))).toNatClampNeg (((s5 27 0 ((r4 + (4 : Int32))).toNatClampNeg) &&& v2) ||| (((s5 27 0 ((r4 + (4 : Int32))).toNatClampNeg) >>> ((1 : Int32) &&& 31)) &&& (v2 ^^^ (-1 : Int32))))) (fun s7 =>
  rk64 v2 (v3 + (1 : Int32)) s7) else none))) qE0 else none))) qE0)
def l_X8_removes_64 : Nat → Int32 → Int32 → qS → Option qO
  | 0, _, _, _ => none
  | n + 1, v2, v3, s0 => b_X8_removes_64  (l_X8_removes_64  n) v2 v3 s0
set_option maxRecDepth 100000 in
set_option maxHeartbeats 4000000 in
theorem bt_X8_removes_64 {p : Program} {l : Launch} {e : Env} {s : State} {m : MethodId} {args : Array Value} {below : List Frame} {meth : Method} {c : Code} {g : qG} (hl : l.stackTraces = false) (C : qC p l s m meth c cX8_removes 5 RX8 g) (hret : meth.sig.returnType = (some .int)) (ht : ∀ x ∈ c.exceptionTable.toList, False)  (rk64 : Int32 → Int32 → qS → Option qO) (hrk64 : ∀ (v2 : Int32) (v3 : Int32) (s0 : qS), qV p l e (qrm 3 0 0) s m args below meth c g 5 (qQf g below args s (qrm 3 0 0)) (rk64 v2 v3 s0) 0 0 64 [some (qR 26 0), none, some (qI v2), some (qI v3), none] [] s0) (v2 : Int32) (v3 : Int32) (s0 : qS) : qV p l e (qrm 3 0 0) s m args below meth c g 5 (qQf g below args s (qrm 3 0 0)) (b_X8_removes_64  rk64 v2 v3 s0) 0 0 64 [some (qR 26 0), none, some (qI v2), some (qI v3), none] [] s0 :=
  (qv_iload_n C dX8_removes_64 rfl (qv_aload_n C dX8_removes_65 rfl (qv_getR C (j2 := 0) fl_X8_9 cl_X8 rfl (by decide) (by decide) (by decide) rfl rfl dX8_removes_66 (qv_iconst C (v := (0 : Int32)) dX8_removes_69 (by decide) (qv_iald! C rfl (by decide) (by decide) (by decide) dX8_removes_70 (qv_icmp_ge C (tgt := 117) dX8_removes_71 (by decide) (fun _ => (qv_aload_n C dX8_removes_117 rfl (qv_getR C (j2 := 0) fl_X8_9 cl_X8 rfl (by decide) (by decide) (by decide) rfl rfl dX8_removes_118 (qv_iconst C (v := (0 : Int32)) dX8_removes_121 (by decide) (qv_iald! C rfl (by decide) (by decide) (by decide) dX8_removes_122 (qv_iret C hret dX8_removes_123))))))
  (fun _ => (qv_aload_n C dX8_removes_74 rfl (qv_getR C (j2 := 0) fl_X8_9 cl_X8 rfl (by decide) (by decide) (by decide) rfl rfl dX8_removes_75 (qv_iload_n C dX8_removes_78 rfl (qv_callS C (rest := [qR 27 0]) (cb := 0) (sb := 0) (t_X8_taskAt hl v3 s0) mw_X8_taskAt lk_X8_83 st_X8_taskAt rfl (Nat.le_of_ble_eq_true rfl) (by decide) dX8_removes_79 rfl (qkI (fun r4 s5 => (qv_iconst C (v := (4 : Int32)) dX8_removes_82 (by decide) (qv_iadd C dX8_removes_83 (qv_iald C rfl rfl (by decide) (by decide) dX8_removes_84 (fun _ => (qv_istore C dX8_removes_85 (by decide) rfl (qv_aload_n C dX8_removes_87 rfl (qv_getR C (j2 := 0) fl_X8_9 cl_X8 rfl (by decide) (by decide) (by decide) rfl rfl dX8_removes_88 (qv_iload_n C dX8_removes_91 rfl (qv_callS C (rest := [qR 27 0]) (cb := 0) (sb := 0) (t_X8_taskAt hl v3 s5) mw_X8_taskAt lk_X8_83 st_X8_taskAt rfl (Nat.le_of_ble_eq_true rfl) (by decide) dX8_removes_92 rfl (qkI (fun r5 s6 => (qv_iconst C (v := (4 : Int32)) dX8_removes_95 (by decide) (qv_iadd C dX8_removes_96 (qv_iload C dX8_removes_97 rfl (qv_iload_n C dX8_removes_99 rfl (qv_iand C dX8_removes_100 (qv_iload C dX8_removes_101 rfl (qv_iconst C (v := (1 : Int32)) dX8_removes_103 (by decide) (qv_ishr C dX8_removes_104 (qv_iload_n C dX8_removes_105 rfl (qv_iconst C (v := (-1 : Int32)) dX8_removes_106 (by decide) (qv_ixor C dX8_removes_107 (qv_iand C dX8_removes_108 (qv_ior C dX8_removes_109 (qv_iast C rfl rfl (by decide) (by decide) dX8_removes_110 (fun _ => (qv_let (fun s7 => (qv_iinc C (v := (v3 + (1 : Int32))) dX8_removes_111 rfl rfl (by decide) rfl (qv_goto C (tgt := 64) dX8_removes_114 (by decide) (qV.weak [true, false, true, true, false] (hrk64 v2 (v3 + (1 : Int32)) s7)))))))))))))))))))))))))))))))))))))))))))))
theorem lt_X8_removes_64 {p : Program} {l : Launch} {e : Env} {s : State} {m : MethodId} {args : Array Value} {below : List Frame} {meth : Method} {c : Code} {g : qG} (hl : l.stackTraces = false) (C : qC p l s m meth c cX8_removes 5 RX8 g) (hret : meth.sig.returnType = (some .int)) (ht : ∀ x ∈ c.exceptionTable.toList, False)  : ∀ (n : Nat) (v2 : Int32) (v3 : Int32) (s0 : qS), qV p l e (qrm 3 0 0) s m args below meth c g 5 (qQf g below args s (qrm 3 0 0)) (l_X8_removes_64  n v2 v3 s0) 0 0 64 [some (qR 26 0), none, some (qI v2), some (qI v3), none] [] s0
  | 0, _, _, _ => qV.no
  | n + 1, v2, v3, s0 => bt_X8_removes_64 hl C hret ht  _ (lt_X8_removes_64 hl C hret ht  n) v2 v3 s0
def b_X8_removes_19 (rk19 : Int32 → Int32 → qS → Option qO) (v1 : Int32) (v2 : Int32) (s0 : qS) : Option qO :=
  (if (71 : Int32) ≤ v2 then qlet (qu s0 27 0 0 ((s0 27 0 0) - (1 : Int32))) (fun s4 =>
  l_X8_removes_64  qFU (((1 : Int32) <<< (v1 &&& 31)) - (1 : Int32)) (0 : Int32) s4) else
  (if qin (v2 + (6 : Int32)) 77 then (if qin v2 77 then qlet (qu s0 27 0 (v2).toNatClampNeg (s0 27 0 ((v2 + (6 : Int32))).toNatClampNeg)) (fun s8 =>
  rk19 v1 (v2 + (1 : Int32)) s8) else none) else none))
def l_X8_removes_19 : Nat → Int32 → Int32 → qS → Option qO
  | 0, _, _, _ => none
  | n + 1, v1, v2, s0 => b_X8_removes_19  (l_X8_removes_19  n) v1 v2 s0
set_option maxRecDepth 100000 in
set_option maxHeartbeats 4000000 in
theorem bt_X8_removes_19 {p : Program} {l : Launch} {e : Env} {s : State} {m : MethodId} {args : Array Value} {below : List Frame} {meth : Method} {c : Code} {g : qG} (hl : l.stackTraces = false) (C : qC p l s m meth c cX8_removes 5 RX8 g) (hret : meth.sig.returnType = (some .int)) (ht : ∀ x ∈ c.exceptionTable.toList, False)  (rk19 : Int32 → Int32 → qS → Option qO) (hrk19 : ∀ (v1 : Int32) (v2 : Int32) (s0 : qS), qV p l e (qrm 3 0 0) s m args below meth c g 5 (qQf g below args s (qrm 3 0 0)) (rk19 v1 v2 s0) 0 0 19 [some (qR 26 0), some (qI v1), some (qI v2), none, none] [] s0) (v1 : Int32) (v2 : Int32) (s0 : qS) : qV p l e (qrm 3 0 0) s m args below meth c g 5 (qQf g below args s (qrm 3 0 0)) (b_X8_removes_19  rk19 v1 v2 s0) 0 0 19 [some (qR 26 0), some (qI v1), some (qI v2), none, none] [] s0 :=
  (qv_iload_n C dX8_removes_19 rfl (qv_bipush C (v := (71 : Int32)) dX8_removes_20 (by decide) (qv_icmp_ge C (tgt := 46) dX8_removes_22 (by decide) (fun _ => (qv_aload_n C dX8_removes_46 rfl (qv_getR C (j2 := 0) fl_X8_9 cl_X8 rfl (by decide) (by decide) (by decide) rfl rfl dX8_removes_47 (qv_iconst C (v := (0 : Int32)) dX8_removes_50 (by decide) (qv_dup2 C dX8_removes_51 rfl rfl (qv_iald! C rfl (by decide) (by decide) (by decide) dX8_removes_52 (qv_iconst C (v := (1 : Int32)) dX8_removes_53 (by decide) (qv_isub C dX8_removes_54 (qv_iast! C rfl (by decide) (by decide) (by decide) dX8_removes_55 (qv_let (fun s4 => (qv_iconst C (v := (1 : Int32)) dX8_removes_56 (by decide) (qv_iload_n C dX8_removes_57 rfl (qv_ishl C dX8_removes_58 (qv_iconst C (v := (1 : Int32)) dX8_removes_59 (by decide) (qv_isub C dX8_removes_60 (qv_istore_n C dX8_removes_61 (by decide) rfl (qv_iconst C (v := (0 : Int32)) dX8_removes_62 (by decide) (qv_istore_n C dX8_removes_63 (by decide) rfl (qV.weak [true, false, true, true, false] (lt_X8_removes_64 hl C hret ht  qFU (((1 : Int32) <<< (v1 &&& 31)) - (1 : Int32)) (0 : Int32) s4)))))))))))))))))))))
  (fun _ => (qv_aload_n C dX8_removes_25 rfl (qv_getR C (j2 := 0) fl_X8_9 cl_X8 rfl (by decide) (by decide) (by decide) rfl rfl dX8_removes_26 (qv_iload_n C dX8_removes_29 rfl (qv_aload_n C dX8_removes_30 rfl (qv_getR C (j2 := 0) fl_X8_9 cl_X8 rfl (by decide) (by decide) (by decide) rfl rfl dX8_removes_31 (qv_iload_n C dX8_removes_34 rfl (qv_bipush C (v := (6 : Int32)) dX8_removes_35 (by decide) (qv_iadd C dX8_removes_37 (qv_iald C rfl rfl (by decide) (by decide) dX8_removes_38 (fun _ => (qv_iast C rfl rfl (by decide) (by decide) dX8_removes_39 (fun _ => (qv_let (fun s8 => (qv_iinc C (v := (v2 + (1 : Int32))) dX8_removes_40 rfl rfl (by decide) rfl (qv_goto C (tgt := 19) dX8_removes_43 (by decide) (qV.weak [true, true, true, false, false] (hrk19 v1 (v2 + (1 : Int32)) s8))))))))))))))))))))))
theorem lt_X8_removes_19 {p : Program} {l : Launch} {e : Env} {s : State} {m : MethodId} {args : Array Value} {below : List Frame} {meth : Method} {c : Code} {g : qG} (hl : l.stackTraces = false) (C : qC p l s m meth c cX8_removes 5 RX8 g) (hret : meth.sig.returnType = (some .int)) (ht : ∀ x ∈ c.exceptionTable.toList, False)  : ∀ (n : Nat) (v1 : Int32) (v2 : Int32) (s0 : qS), qV p l e (qrm 3 0 0) s m args below meth c g 5 (qQf g below args s (qrm 3 0 0)) (l_X8_removes_19  n v1 v2 s0) 0 0 19 [some (qR 26 0), some (qI v1), some (qI v2), none, none] [] s0
  | 0, _, _, _ => qV.no
  | n + 1, v1, v2, s0 => bt_X8_removes_19 hl C hret ht  _ (lt_X8_removes_19 hl C hret ht  n) v1 v2 s0
def f_X8_removes (a1 : Int32) (s0 : qS) : Option qO :=
  qbind (f_X8_isTask a1 s0) (qvI (fun r1 s1 =>
  qbind (f_X8_goes r1 s1) (qvI (fun r2 s2 =>
  (if r2 = 0 then (some (.inl (some (qI (0 : Int32))), s2)) else
  qbind (f_X8_taskAt a1 s2) (qvI (fun r3 s3 =>
  l_X8_removes_19  qFU a1 r3 s3)) qE0))) qE0)) qE0
set_option maxRecDepth 100000 in
set_option maxHeartbeats 4000000 in
theorem t_X8_removes {g : qG} {l : Launch} (hl : l.stackTraces = false) (a1 : Int32) (s0 : qS) : qM g l 3 0 0 (.code yX8_removes cX8_removes 5 (some .int)) yX8_removes [qR 26 0, qI a1] s0 (f_X8_removes a1 s0) := by
  refine qM_of (by decide +kernel) hl (List.forall_mem_cons.mpr ⟨rfl, (List.forall_mem_cons.mpr ⟨rfl, (fun _ h => absurd h List.not_mem_nil)⟩)⟩) (Nat.le_of_ble_eq_true rfl) ?_
  intro p e s m args below meth c C hret ht
  show qV p l e _ s m args below meth c g _ _ _ _ _ 0 [some (qR 26 0), some (qI a1), none, none, none] [] s0
  exact (qv_aload_n C dX8_removes_0 rfl (qv_aload_n C dX8_removes_1 rfl (qv_iload_n C dX8_removes_2 rfl (qv_callV C (rest := [qR 26 0]) (cb := 0) (sb := 0) (t_X8_isTask hl a1 s0) mw_X8_isTask lk_X8_79 in_X8_isTask se_X8_isTask rfl (by decide) (by decide) rfl rfl (Nat.le_of_ble_eq_true rfl) (by decide) dX8_removes_3 rfl (qkI (fun r1 s1 => (qv_callV C (rest := []) (cb := 0) (sb := 0) (t_X8_goes hl r1 s1) mw_X8_goes lk_X8_67 in_X8_goes se_X8_goes rfl (by decide) (by decide) rfl rfl (Nat.le_of_ble_eq_true rfl) (by decide) dX8_removes_6 rfl (qkI (fun r2 s2 => (qv_if_ne C (tgt := 14) dX8_removes_9 (by decide) (fun _ => (qv_iconst C (v := (0 : Int32)) dX8_removes_12 (by decide) (qv_iret C hret dX8_removes_13)))
  (fun _ => (qv_iload_n C dX8_removes_14 rfl (qv_callS C (rest := []) (cb := 0) (sb := 0) (t_X8_taskAt hl a1 s2) mw_X8_taskAt lk_X8_83 st_X8_taskAt rfl (Nat.le_of_ble_eq_true rfl) (by decide) dX8_removes_15 rfl (qkI (fun r3 s3 => (qv_istore_n C dX8_removes_18 (by decide) rfl (qV.weak [true, true, true, false, false] (lt_X8_removes_19 hl C hret ht  qFU a1 r3 s3))))))))))))))))))
def f_X8_removeTask (a1 : Int32) (s0 : qS) : Option qO :=
  qbind (f_X8_begins  s0) (qvV (fun s1 =>
  qbind (f_X8_removes a1 s1) (qvI (fun r1 s2 =>
  qbind (f_X8_ends r1 s2) (qvI (fun r2 s3 =>
  (some (.inl (some (qI r2)), s3)))) qE0)) qE0)) qE0
set_option maxRecDepth 100000 in
set_option maxHeartbeats 4000000 in
theorem t_X8_removeTask {g : qG} {l : Launch} (hl : l.stackTraces = false) (a1 : Int32) (s0 : qS) : qM g l 4 0 0 (.code yX8_removeTask cX8_removeTask 2 (some .int)) yX8_removeTask [qR 26 0, qI a1] s0 (f_X8_removeTask a1 s0) := by
  refine qM_of (by decide +kernel) hl (List.forall_mem_cons.mpr ⟨rfl, (List.forall_mem_cons.mpr ⟨rfl, (fun _ h => absurd h List.not_mem_nil)⟩)⟩) (Nat.le_of_ble_eq_true rfl) ?_
  intro p e s m args below meth c C hret ht
  show qV p l e _ s m args below meth c g _ _ _ _ _ 0 [some (qR 26 0), some (qI a1)] [] s0
  exact (qv_aload_n C dX8_removeTask_0 rfl (qv_callV C (rest := []) (cb := 0) (sb := 0) (t_X8_begins hl  s0) mw_X8_begins lk_X8_97 in_X8_begins se_X8_begins rfl (by decide) (by decide) rfl rfl (Nat.le_of_ble_eq_true rfl) (by decide) dX8_removeTask_1 rfl (qkV (fun s1 => (qv_aload_n C dX8_removeTask_4 rfl (qv_aload_n C dX8_removeTask_5 rfl (qv_iload_n C dX8_removeTask_6 rfl (qv_callV C (rest := [qR 26 0]) (cb := 0) (sb := 0) (t_X8_removes hl a1 s1) mw_X8_removes lk_X8_107 in_X8_removes se_X8_removes rfl (by decide) (by decide) rfl rfl (Nat.le_of_ble_eq_true rfl) (by decide) dX8_removeTask_7 rfl (qkI (fun r1 s2 => (qv_callV C (rest := []) (cb := 0) (sb := 0) (t_X8_ends hl r1 s2) mw_X8_ends lk_X8_104 in_X8_ends se_X8_ends rfl (by decide) (by decide) rfl rfl (Nat.le_of_ble_eq_true rfl) (by decide) dX8_removeTask_10 rfl (qkI (fun r2 s3 => (qv_iret C hret dX8_removeTask_13))))))))))))))
def j_X8_links_74 (v1 : Int32) (v2 : Int32) (w0 : Int32) (s0 : qS) : Option qO :=
  qbind (f_X8_taskAt v1 s0) (qvI (fun r4 s4 =>
  (if qin (r4 + (4 : Int32)) 77 then (if qin (r4 + (4 : Int32)) 77 then qlet (qu s4 27 0 ((r4 + (4 : Int32))).toNatClampNeg ((s4 27 0 ((r4 + (4 : Int32))).toNatClampNeg) ||| ((1 : Int32) <<< (v2 &&& 31)))) (fun s5 =>
  (some (.inl (some (qI w0)), s5))) else none) else none))) qE0
set_option maxRecDepth 100000 in
set_option maxHeartbeats 4000000 in
theorem jt_X8_links_74 {p : Program} {l : Launch} {e : Env} {s : State} {m : MethodId} {args : Array Value} {below : List Frame} {meth : Method} {c : Code} {g : qG} (hl : l.stackTraces = false) (C : qC p l s m meth c cX8_links 5 RX8 g) (hret : meth.sig.returnType = (some .int)) (ht : ∀ x ∈ c.exceptionTable.toList, False)  (v1 : Int32) (v2 : Int32) (w0 : Int32) (s0 : qS) : qV p l e (qrm 6 0 0) s m args below meth c g 5 (qQf g below args s (qrm 6 0 0)) (j_X8_links_74  v1 v2 w0 s0) 0 0 74 [some (qR 26 0), some (qI v1), some (qI v2), none, none] [qI w0] s0 :=
  (qv_istore C dX8_links_74 (by decide) rfl (qv_aload_n C dX8_links_76 rfl (qv_getR C (j2 := 0) fl_X8_9 cl_X8 rfl (by decide) (by decide) (by decide) rfl rfl dX8_links_77 (qv_iload_n C dX8_links_80 rfl (qv_callS C (rest := [qR 27 0]) (cb := 0) (sb := 0) (t_X8_taskAt hl v1 s0) mw_X8_taskAt lk_X8_83 st_X8_taskAt rfl (Nat.le_of_ble_eq_true rfl) (by decide) dX8_links_81 rfl (qkI (fun r4 s4 => (qv_iconst C (v := (4 : Int32)) dX8_links_84 (by decide) (qv_iadd C dX8_links_85 (qv_dup2 C dX8_links_86 rfl rfl (qv_iald C rfl rfl (by decide) (by decide) dX8_links_87 (fun _ => (qv_iconst C (v := (1 : Int32)) dX8_links_88 (by decide) (qv_iload_n C dX8_links_89 rfl (qv_ishl C dX8_links_90 (qv_ior C dX8_links_91 (qv_iast C rfl rfl (by decide) (by decide) dX8_links_92 (fun _ => (qv_let (fun s5 => (qv_iload C dX8_links_93 rfl (qv_iret C hret dX8_links_95))))))))))))))))))))))
def j_X8_links_52 (v1 : Int32) (v2 : Int32) (w1 : Int32) (w2 : Int32) (w3 : Int32) (s0 : qS) : Option qO :=
  qbind (f_X8_holds w1 w2 w3 s0) (qvI (fun r2 s2 =>
  (if r2 = 0 then (some (.inl (some (qI (0 : Int32))), s2)) else
  qbind (f_X8_isNeeded v1 v2 s2) (qvI (fun r3 s3 =>
  (if r3 = 0 then j_X8_links_74  v1 v2 (0 : Int32) s3 else
  j_X8_links_74  v1 v2 (1 : Int32) s3))) qE0))) qE0
set_option maxRecDepth 100000 in
set_option maxHeartbeats 4000000 in
theorem jt_X8_links_52 {p : Program} {l : Launch} {e : Env} {s : State} {m : MethodId} {args : Array Value} {below : List Frame} {meth : Method} {c : Code} {g : qG} (hl : l.stackTraces = false) (C : qC p l s m meth c cX8_links 5 RX8 g) (hret : meth.sig.returnType = (some .int)) (ht : ∀ x ∈ c.exceptionTable.toList, False)  (v1 : Int32) (v2 : Int32) (w1 : Int32) (w2 : Int32) (w3 : Int32) (s0 : qS) : qV p l e (qrm 6 0 0) s m args below meth c g 5 (qQf g below args s (qrm 6 0 0)) (j_X8_links_52  v1 v2 w1 w2 w3 s0) 0 0 52 [some (qR 26 0), some (qI v1), some (qI v2), none, none] [qI w3, qI w2, qI w1, qR 26 0] s0 :=
  (qv_callV C (rest := []) (cb := 0) (sb := 0) (t_X8_holds hl w1 w2 w3 s0) mw_X8_holds lk_X8_53 in_X8_holds se_X8_holds rfl (by decide) (by decide) rfl rfl (Nat.le_of_ble_eq_true rfl) (by decide) dX8_links_52 rfl (qkI (fun r2 s2 => (qv_if_ne C (tgt := 60) dX8_links_55 (by decide) (fun _ => (qv_iconst C (v := (0 : Int32)) dX8_links_58 (by decide) (qv_iret C hret dX8_links_59)))
  (fun _ => (qv_aload_n C dX8_links_60 rfl (qv_iload_n C dX8_links_61 rfl (qv_iload_n C dX8_links_62 rfl (qv_callV C (rest := []) (cb := 0) (sb := 0) (t_X8_isNeeded hl v1 v2 s2) mw_X8_isNeeded lk_X8_114 in_X8_isNeeded se_X8_isNeeded rfl (by decide) (by decide) rfl rfl (Nat.le_of_ble_eq_true rfl) (by decide) dX8_links_63 rfl (qkI (fun r3 s3 => (qv_if_eq C (tgt := 73) dX8_links_66 (by decide) (fun _ => (qv_iconst C (v := (0 : Int32)) dX8_links_73 (by decide) (qV.weak [true, true, true, false, false] (jt_X8_links_74 hl C hret ht  v1 v2 (0 : Int32) s3))))
  (fun _ => (qv_iconst C (v := (1 : Int32)) dX8_links_69 (by decide) (qv_goto C (tgt := 74) dX8_links_70 (by decide) (qV.weak [true, true, true, false, false] (jt_X8_links_74 hl C hret ht  v1 v2 (1 : Int32) s3)))))))))))))))))
def j_X8_links_34 (v1 : Int32) (v2 : Int32) (v3 : Int32) (w1 : Int32) (w2 : Int32) (s0 : qS) : Option qO :=
  (if v3 = 0 then j_X8_links_52  v1 v2 w1 w2 (0 : Int32) s0 else
  qbind (f_X8_doesDepend v2 v1 s0) (qvI (fun r5 s6 =>
  (if r5 = 0 then j_X8_links_52  v1 v2 w1 w2 (1 : Int32) s6 else
  j_X8_links_52  v1 v2 w1 w2 (0 : Int32) s6))) qE0)
set_option maxRecDepth 100000 in
set_option maxHeartbeats 4000000 in
theorem jt_X8_links_34 {p : Program} {l : Launch} {e : Env} {s : State} {m : MethodId} {args : Array Value} {below : List Frame} {meth : Method} {c : Code} {g : qG} (hl : l.stackTraces = false) (C : qC p l s m meth c cX8_links 5 RX8 g) (hret : meth.sig.returnType = (some .int)) (ht : ∀ x ∈ c.exceptionTable.toList, False)  (v1 : Int32) (v2 : Int32) (v3 : Int32) (w1 : Int32) (w2 : Int32) (s0 : qS) : qV p l e (qrm 6 0 0) s m args below meth c g 5 (qQf g below args s (qrm 6 0 0)) (j_X8_links_34  v1 v2 v3 w1 w2 s0) 0 0 34 [some (qR 26 0), some (qI v1), some (qI v2), some (qI v3), none] [qI w2, qI w1, qR 26 0] s0 :=
  (qv_iload_n C dX8_links_34 rfl (qv_if_eq C (tgt := 51) dX8_links_35 (by decide) (fun _ => (qv_iconst C (v := (0 : Int32)) dX8_links_51 (by decide) (qV.weak [true, true, true, false, false] (jt_X8_links_52 hl C hret ht  v1 v2 w1 w2 (0 : Int32) s0))))
  (fun _ => (qv_aload_n C dX8_links_38 rfl (qv_iload_n C dX8_links_39 rfl (qv_iload_n C dX8_links_40 rfl (qv_callV C (rest := [qI w2, qI w1, qR 26 0]) (cb := 0) (sb := 0) (t_X8_doesDepend hl v2 v1 s0) mw_X8_doesDepend lk_X8_110 in_X8_doesDepend se_X8_doesDepend rfl (by decide) (by decide) rfl rfl (Nat.le_of_ble_eq_true rfl) (by decide) dX8_links_41 rfl (qkI (fun r5 s6 => (qv_if_ne C (tgt := 51) dX8_links_44 (by decide) (fun _ => (qv_iconst C (v := (1 : Int32)) dX8_links_47 (by decide) (qv_goto C (tgt := 52) dX8_links_48 (by decide) (qV.weak [true, true, true, false, false] (jt_X8_links_52 hl C hret ht  v1 v2 w1 w2 (1 : Int32) s6)))))
  (fun _ => (qv_iconst C (v := (0 : Int32)) dX8_links_51 (by decide) (qV.weak [true, true, true, false, false] (jt_X8_links_52 hl C hret ht  v1 v2 w1 w2 (0 : Int32) s6))))))))))))))
def f_X8_links (a1 : Int32) (a2 : Int32) (s0 : qS) : Option qO :=
  qbind (f_X8_isTask a1 s0) (qvI (fun r1 s1 =>
  (if r1 = 0 then (if a1 = a2 then j_X8_links_34  a1 a2 (0 : Int32) (0 : Int32) (0 : Int32) s1 else
  j_X8_links_34  a1 a2 (0 : Int32) (0 : Int32) (1 : Int32) s1) else
  qbind (f_X8_isTask a2 s1) (qvI (fun r6 s7 =>
  (if r6 = 0 then (if a1 = a2 then j_X8_links_34  a1 a2 (0 : Int32) (0 : Int32) (0 : Int32) s7 else
  j_X8_links_34  a1 a2 (0 : Int32) (0 : Int32) (1 : Int32) s7) else
  (if a1 = a2 then j_X8_links_34  a1 a2 (1 : Int32) (1 : Int32) (0 : Int32) s7 else
  j_X8_links_34  a1 a2 (1 : Int32) (1 : Int32) (1 : Int32) s7)))) qE0))) qE0
set_option maxRecDepth 100000 in
set_option maxHeartbeats 4000000 in
theorem t_X8_links {g : qG} {l : Launch} (hl : l.stackTraces = false) (a1 : Int32) (a2 : Int32) (s0 : qS) : qM g l 6 0 0 (.code yX8_links cX8_links 5 (some .int)) yX8_links [qR 26 0, qI a1, qI a2] s0 (f_X8_links a1 a2 s0) := by
  refine qM_of (by decide +kernel) hl (List.forall_mem_cons.mpr ⟨rfl, (List.forall_mem_cons.mpr ⟨rfl, (List.forall_mem_cons.mpr ⟨rfl, (fun _ h => absurd h List.not_mem_nil)⟩)⟩)⟩) (Nat.le_of_ble_eq_true rfl) ?_
  intro p e s m args below meth c C hret ht
  show qV p l e _ s m args below meth c g _ _ _ _ _ 0 [some (qR 26 0), some (qI a1), some (qI a2), none, none] [] s0
  exact (qv_aload_n C dX8_links_0 rfl (qv_iload_n C dX8_links_1 rfl (qv_callV C (rest := []) (cb := 0) (sb := 0) (t_X8_isTask hl a1 s0) mw_X8_isTask lk_X8_79 in_X8_isTask se_X8_isTask rfl (by decide) (by decide) rfl rfl (Nat.le_of_ble_eq_true rfl) (by decide) dX8_links_2 rfl (qkI (fun r1 s1 => (qv_if_eq C (tgt := 20) dX8_links_5 (by decide) (fun _ => (qv_iconst C (v := (0 : Int32)) dX8_links_20 (by decide) (qv_istore_n C dX8_links_21 (by decide) rfl (qv_aload_n C dX8_links_22 rfl (qv_iload_n C dX8_links_23 rfl (qv_iload_n C dX8_links_24 rfl (qv_iload_n C dX8_links_25 rfl (qv_icmp_eq C (tgt := 33) dX8_links_26 (by decide) (fun _ => (qv_iconst C (v := (0 : Int32)) dX8_links_33 (by decide) (qV.weak [true, true, true, true, false] (jt_X8_links_34 hl C hret ht  a1 a2 (0 : Int32) (0 : Int32) (0 : Int32) s1))))
  (fun _ => (qv_iconst C (v := (1 : Int32)) dX8_links_29 (by decide) (qv_goto C (tgt := 34) dX8_links_30 (by decide) (qV.weak [true, true, true, true, false] (jt_X8_links_34 hl C hret ht  a1 a2 (0 : Int32) (0 : Int32) (1 : Int32) s1)))))))))))))
  (fun _ => (qv_aload_n C dX8_links_8 rfl (qv_iload_n C dX8_links_9 rfl (qv_callV C (rest := []) (cb := 0) (sb := 0) (t_X8_isTask hl a2 s1) mw_X8_isTask lk_X8_79 in_X8_isTask se_X8_isTask rfl (by decide) (by decide) rfl rfl (Nat.le_of_ble_eq_true rfl) (by decide) dX8_links_10 rfl (qkI (fun r6 s7 => (qv_if_eq C (tgt := 20) dX8_links_13 (by decide) (fun _ => (qv_iconst C (v := (0 : Int32)) dX8_links_20 (by decide) (qv_istore_n C dX8_links_21 (by decide) rfl (qv_aload_n C dX8_links_22 rfl (qv_iload_n C dX8_links_23 rfl (qv_iload_n C dX8_links_24 rfl (qv_iload_n C dX8_links_25 rfl (qv_icmp_eq C (tgt := 33) dX8_links_26 (by decide) (fun _ => (qv_iconst C (v := (0 : Int32)) dX8_links_33 (by decide) (qV.weak [true, true, true, true, false] (jt_X8_links_34 hl C hret ht  a1 a2 (0 : Int32) (0 : Int32) (0 : Int32) s7))))
  (fun _ => (qv_iconst C (v := (1 : Int32)) dX8_links_29 (by decide) (qv_goto C (tgt := 34) dX8_links_30 (by decide) (qV.weak [true, true, true, true, false] (jt_X8_links_34 hl C hret ht  a1 a2 (0 : Int32) (0 : Int32) (1 : Int32) s7)))))))))))))
  (fun _ => (qv_iconst C (v := (1 : Int32)) dX8_links_16 (by decide) (qv_goto C (tgt := 21) dX8_links_17 (by decide) (qv_istore_n C dX8_links_21 (by decide) rfl (qv_aload_n C dX8_links_22 rfl (qv_iload_n C dX8_links_23 rfl (qv_iload_n C dX8_links_24 rfl (qv_iload_n C dX8_links_25 rfl (qv_icmp_eq C (tgt := 33) dX8_links_26 (by decide) (fun _ => (qv_iconst C (v := (0 : Int32)) dX8_links_33 (by decide) (qV.weak [true, true, true, true, false] (jt_X8_links_34 hl C hret ht  a1 a2 (1 : Int32) (1 : Int32) (0 : Int32) s7))))
  (fun _ => (qv_iconst C (v := (1 : Int32)) dX8_links_29 (by decide) (qv_goto C (tgt := 34) dX8_links_30 (by decide) (qV.weak [true, true, true, true, false] (jt_X8_links_34 hl C hret ht  a1 a2 (1 : Int32) (1 : Int32) (1 : Int32) s7)))))))))))))))))))))))))))
def f_X8_addDependency (a1 : Int32) (a2 : Int32) (s0 : qS) : Option qO :=
  qbind (f_X8_begins  s0) (qvV (fun s1 =>
  qbind (f_X8_links a1 a2 s1) (qvI (fun r1 s2 =>
  qbind (f_X8_ends r1 s2) (qvI (fun r2 s3 =>
  (if (s3 26 0 17) = 0 then (if r2 = 0 then (some (.inl (some (qI (1 : Int32))), s3)) else
  (some (.inl (some (qI (0 : Int32))), s3))) else
  (some (.inl (some (qI (0 : Int32))), s3))))) qE0)) qE0)) qE0
set_option maxRecDepth 100000 in
set_option maxHeartbeats 4000000 in
theorem t_X8_addDependency {g : qG} {l : Launch} (hl : l.stackTraces = false) (a1 : Int32) (a2 : Int32) (s0 : qS) : qM g l 7 0 0 (.code yX8_addDependency cX8_addDependency 4 (some .boolean)) yX8_addDependency [qR 26 0, qI a1, qI a2] s0 (f_X8_addDependency a1 a2 s0) := by
  refine qM_of (by decide +kernel) hl (List.forall_mem_cons.mpr ⟨rfl, (List.forall_mem_cons.mpr ⟨rfl, (List.forall_mem_cons.mpr ⟨rfl, (fun _ h => absurd h List.not_mem_nil)⟩)⟩)⟩) (Nat.le_of_ble_eq_true rfl) ?_
  intro p e s m args below meth c C hret ht
  show qV p l e _ s m args below meth c g _ _ _ _ _ 0 [some (qR 26 0), some (qI a1), some (qI a2), none] [] s0
  exact (qv_aload_n C dX8_addDependency_0 rfl (qv_callV C (rest := []) (cb := 0) (sb := 0) (t_X8_begins hl  s0) mw_X8_begins lk_X8_97 in_X8_begins se_X8_begins rfl (by decide) (by decide) rfl rfl (Nat.le_of_ble_eq_true rfl) (by decide) dX8_addDependency_1 rfl (qkV (fun s1 => (qv_aload_n C dX8_addDependency_4 rfl (qv_aload_n C dX8_addDependency_5 rfl (qv_iload_n C dX8_addDependency_6 rfl (qv_iload_n C dX8_addDependency_7 rfl (qv_callV C (rest := [qR 26 0]) (cb := 0) (sb := 0) (t_X8_links hl a1 a2 s1) mw_X8_links lk_X8_117 in_X8_links se_X8_links rfl (by decide) (by decide) rfl rfl (Nat.le_of_ble_eq_true rfl) (by decide) dX8_addDependency_8 rfl (qkI (fun r1 s2 => (qv_callV C (rest := []) (cb := 0) (sb := 0) (t_X8_ends hl r1 s2) mw_X8_ends lk_X8_104 in_X8_ends se_X8_ends rfl (by decide) (by decide) rfl rfl (Nat.le_of_ble_eq_true rfl) (by decide) dX8_addDependency_11 rfl (qkI (fun r2 s3 => (qv_istore_n C dX8_addDependency_14 (by decide) rfl (qv_aload_n C dX8_addDependency_15 rfl (qv_getI C fl_X8_50 cl_X8 rfl (by decide) (by decide) (by decide) rfl dX8_addDependency_16 (qv_if_ne C (tgt := 30) dX8_addDependency_19 (by decide) (fun _ => (qv_iload_n C dX8_addDependency_22 rfl (qv_if_ne C (tgt := 30) dX8_addDependency_23 (by decide) (fun _ => (qv_iconst C (v := (1 : Int32)) dX8_addDependency_26 (by decide) (qv_goto C (tgt := 31) dX8_addDependency_27 (by decide) (qv_zret! C hret (qbo_nar (by decide)) dX8_addDependency_31))))
  (fun _ => (qv_iconst C (v := (0 : Int32)) dX8_addDependency_30 (by decide) (qv_zret! C hret (qbo_nar (by decide)) dX8_addDependency_31))))))
  (fun _ => (qv_iconst C (v := (0 : Int32)) dX8_addDependency_30 (by decide) (qv_zret! C hret (qbo_nar (by decide)) dX8_addDependency_31)))))))))))))))))))))
def j_X8_unlinks_44 (v1 : Int32) (v2 : Int32) (w0 : Int32) (s0 : qS) : Option qO :=
  qbind (f_X8_taskAt v1 s0) (qvI (fun r4 s4 =>
  (if qin (r4 + (4 : Int32)) 77 then (if qin (r4 + (4 : Int32)) 77 then qlet (qu s4 27 0 ((r4 + (4 : Int32))).toNatClampNeg ((s4 27 0 ((r4 + (4 : Int32))).toNatClampNeg) &&& (((1 : Int32) <<< (v2 &&& 31)) ^^^ (-1 : Int32)))) (fun s5 =>
  (some (.inl (some (qI w0)), s5))) else none) else none))) qE0
set_option maxRecDepth 100000 in
set_option maxHeartbeats 4000000 in
theorem jt_X8_unlinks_44 {p : Program} {l : Launch} {e : Env} {s : State} {m : MethodId} {args : Array Value} {below : List Frame} {meth : Method} {c : Code} {g : qG} (hl : l.stackTraces = false) (C : qC p l s m meth c cX8_unlinks 4 RX8 g) (hret : meth.sig.returnType = (some .int)) (ht : ∀ x ∈ c.exceptionTable.toList, False)  (v1 : Int32) (v2 : Int32) (w0 : Int32) (s0 : qS) : qV p l e (qrm 5 0 0) s m args below meth c g 4 (qQf g below args s (qrm 5 0 0)) (j_X8_unlinks_44  v1 v2 w0 s0) 0 0 44 [some (qR 26 0), some (qI v1), some (qI v2), none] [qI w0] s0 :=
  (qv_istore_n C dX8_unlinks_44 (by decide) rfl (qv_aload_n C dX8_unlinks_45 rfl (qv_getR C (j2 := 0) fl_X8_9 cl_X8 rfl (by decide) (by decide) (by decide) rfl rfl dX8_unlinks_46 (qv_iload_n C dX8_unlinks_49 rfl (qv_callS C (rest := [qR 27 0]) (cb := 0) (sb := 0) (t_X8_taskAt hl v1 s0) mw_X8_taskAt lk_X8_83 st_X8_taskAt rfl (Nat.le_of_ble_eq_true rfl) (by decide) dX8_unlinks_50 rfl (qkI (fun r4 s4 => (qv_iconst C (v := (4 : Int32)) dX8_unlinks_53 (by decide) (qv_iadd C dX8_unlinks_54 (qv_dup2 C dX8_unlinks_55 rfl rfl (qv_iald C rfl rfl (by decide) (by decide) dX8_unlinks_56 (fun _ => (qv_iconst C (v := (1 : Int32)) dX8_unlinks_57 (by decide) (qv_iload_n C dX8_unlinks_58 rfl (qv_ishl C dX8_unlinks_59 (qv_iconst C (v := (-1 : Int32)) dX8_unlinks_60 (by decide) (qv_ixor C dX8_unlinks_61 (qv_iand C dX8_unlinks_62 (qv_iast C rfl rfl (by decide) (by decide) dX8_unlinks_63 (fun _ => (qv_let (fun s5 => (qv_iload_n C dX8_unlinks_64 rfl (qv_iret C hret dX8_unlinks_65))))))))))))))))))))))))
def j_X8_unlinks_22 (v1 : Int32) (v2 : Int32) (w1 : Int32) (s0 : qS) : Option qO :=
  qbind (f_X8_goes w1 s0) (qvI (fun r2 s2 =>
  (if r2 = 0 then (some (.inl (some (qI (0 : Int32))), s2)) else
  qbind (f_X8_isNeeded v1 v2 s2) (qvI (fun r3 s3 =>
  (if r3 = 0 then j_X8_unlinks_44  v1 v2 (0 : Int32) s3 else
  j_X8_unlinks_44  v1 v2 (1 : Int32) s3))) qE0))) qE0
set_option maxRecDepth 100000 in
set_option maxHeartbeats 4000000 in
theorem jt_X8_unlinks_22 {p : Program} {l : Launch} {e : Env} {s : State} {m : MethodId} {args : Array Value} {below : List Frame} {meth : Method} {c : Code} {g : qG} (hl : l.stackTraces = false) (C : qC p l s m meth c cX8_unlinks 4 RX8 g) (hret : meth.sig.returnType = (some .int)) (ht : ∀ x ∈ c.exceptionTable.toList, False)  (v1 : Int32) (v2 : Int32) (w1 : Int32) (s0 : qS) : qV p l e (qrm 5 0 0) s m args below meth c g 4 (qQf g below args s (qrm 5 0 0)) (j_X8_unlinks_22  v1 v2 w1 s0) 0 0 22 [some (qR 26 0), some (qI v1), some (qI v2), none] [qI w1, qR 26 0] s0 :=
  (qv_callV C (rest := []) (cb := 0) (sb := 0) (t_X8_goes hl w1 s0) mw_X8_goes lk_X8_67 in_X8_goes se_X8_goes rfl (by decide) (by decide) rfl rfl (Nat.le_of_ble_eq_true rfl) (by decide) dX8_unlinks_22 rfl (qkI (fun r2 s2 => (qv_if_ne C (tgt := 30) dX8_unlinks_25 (by decide) (fun _ => (qv_iconst C (v := (0 : Int32)) dX8_unlinks_28 (by decide) (qv_iret C hret dX8_unlinks_29)))
  (fun _ => (qv_aload_n C dX8_unlinks_30 rfl (qv_iload_n C dX8_unlinks_31 rfl (qv_iload_n C dX8_unlinks_32 rfl (qv_callV C (rest := []) (cb := 0) (sb := 0) (t_X8_isNeeded hl v1 v2 s2) mw_X8_isNeeded lk_X8_114 in_X8_isNeeded se_X8_isNeeded rfl (by decide) (by decide) rfl rfl (Nat.le_of_ble_eq_true rfl) (by decide) dX8_unlinks_33 rfl (qkI (fun r3 s3 => (qv_if_eq C (tgt := 43) dX8_unlinks_36 (by decide) (fun _ => (qv_iconst C (v := (0 : Int32)) dX8_unlinks_43 (by decide) (qV.weak [true, true, true, false] (jt_X8_unlinks_44 hl C hret ht  v1 v2 (0 : Int32) s3))))
  (fun _ => (qv_iconst C (v := (1 : Int32)) dX8_unlinks_39 (by decide) (qv_goto C (tgt := 44) dX8_unlinks_40 (by decide) (qV.weak [true, true, true, false] (jt_X8_unlinks_44 hl C hret ht  v1 v2 (1 : Int32) s3)))))))))))))))))
def f_X8_unlinks (a1 : Int32) (a2 : Int32) (s0 : qS) : Option qO :=
  qbind (f_X8_isTask a1 s0) (qvI (fun r1 s1 =>
  (if r1 = 0 then j_X8_unlinks_22  a1 a2 (0 : Int32) s1 else
  qbind (f_X8_isTask a2 s1) (qvI (fun r5 s6 =>
  (if r5 = 0 then j_X8_unlinks_22  a1 a2 (0 : Int32) s6 else
  j_X8_unlinks_22  a1 a2 (1 : Int32) s6))) qE0))) qE0
set_option maxRecDepth 100000 in
set_option maxHeartbeats 4000000 in
theorem t_X8_unlinks {g : qG} {l : Launch} (hl : l.stackTraces = false) (a1 : Int32) (a2 : Int32) (s0 : qS) : qM g l 5 0 0 (.code yX8_unlinks cX8_unlinks 4 (some .int)) yX8_unlinks [qR 26 0, qI a1, qI a2] s0 (f_X8_unlinks a1 a2 s0) := by
  refine qM_of (by decide +kernel) hl (List.forall_mem_cons.mpr ⟨rfl, (List.forall_mem_cons.mpr ⟨rfl, (List.forall_mem_cons.mpr ⟨rfl, (fun _ h => absurd h List.not_mem_nil)⟩)⟩)⟩) (Nat.le_of_ble_eq_true rfl) ?_
  intro p e s m args below meth c C hret ht
  show qV p l e _ s m args below meth c g _ _ _ _ _ 0 [some (qR 26 0), some (qI a1), some (qI a2), none] [] s0
  exact (qv_aload_n C dX8_unlinks_0 rfl (qv_aload_n C dX8_unlinks_1 rfl (qv_iload_n C dX8_unlinks_2 rfl (qv_callV C (rest := [qR 26 0]) (cb := 0) (sb := 0) (t_X8_isTask hl a1 s0) mw_X8_isTask lk_X8_79 in_X8_isTask se_X8_isTask rfl (by decide) (by decide) rfl rfl (Nat.le_of_ble_eq_true rfl) (by decide) dX8_unlinks_3 rfl (qkI (fun r1 s1 => (qv_if_eq C (tgt := 21) dX8_unlinks_6 (by decide) (fun _ => (qv_iconst C (v := (0 : Int32)) dX8_unlinks_21 (by decide) (qV.weak [true, true, true, false] (jt_X8_unlinks_22 hl C hret ht  a1 a2 (0 : Int32) s1))))
  (fun _ => (qv_aload_n C dX8_unlinks_9 rfl (qv_iload_n C dX8_unlinks_10 rfl (qv_callV C (rest := [qR 26 0]) (cb := 0) (sb := 0) (t_X8_isTask hl a2 s1) mw_X8_isTask lk_X8_79 in_X8_isTask se_X8_isTask rfl (by decide) (by decide) rfl rfl (Nat.le_of_ble_eq_true rfl) (by decide) dX8_unlinks_11 rfl (qkI (fun r5 s6 => (qv_if_eq C (tgt := 21) dX8_unlinks_14 (by decide) (fun _ => (qv_iconst C (v := (0 : Int32)) dX8_unlinks_21 (by decide) (qV.weak [true, true, true, false] (jt_X8_unlinks_22 hl C hret ht  a1 a2 (0 : Int32) s6))))
  (fun _ => (qv_iconst C (v := (1 : Int32)) dX8_unlinks_17 (by decide) (qv_goto C (tgt := 22) dX8_unlinks_18 (by decide) (qV.weak [true, true, true, false] (jt_X8_unlinks_22 hl C hret ht  a1 a2 (1 : Int32) s6)))))))))))))))))))
def f_X8_removeDependency (a1 : Int32) (a2 : Int32) (s0 : qS) : Option qO :=
  qbind (f_X8_begins  s0) (qvV (fun s1 =>
  qbind (f_X8_unlinks a1 a2 s1) (qvI (fun r1 s2 =>
  qbind (f_X8_ends r1 s2) (qvI (fun r2 s3 =>
  (if r2 = (1 : Int32) then (some (.inl (some (qI (1 : Int32))), s3)) else
  (some (.inl (some (qI (0 : Int32))), s3))))) qE0)) qE0)) qE0
set_option maxRecDepth 100000 in
set_option maxHeartbeats 4000000 in
theorem t_X8_removeDependency {g : qG} {l : Launch} (hl : l.stackTraces = false) (a1 : Int32) (a2 : Int32) (s0 : qS) : qM g l 6 0 0 (.code yX8_removeDependency cX8_removeDependency 3 (some .boolean)) yX8_removeDependency [qR 26 0, qI a1, qI a2] s0 (f_X8_removeDependency a1 a2 s0) := by
  refine qM_of (by decide +kernel) hl (List.forall_mem_cons.mpr ⟨rfl, (List.forall_mem_cons.mpr ⟨rfl, (List.forall_mem_cons.mpr ⟨rfl, (fun _ h => absurd h List.not_mem_nil)⟩)⟩)⟩) (Nat.le_of_ble_eq_true rfl) ?_
  intro p e s m args below meth c C hret ht
  show qV p l e _ s m args below meth c g _ _ _ _ _ 0 [some (qR 26 0), some (qI a1), some (qI a2)] [] s0
  exact (qv_aload_n C dX8_removeDependency_0 rfl (qv_callV C (rest := []) (cb := 0) (sb := 0) (t_X8_begins hl  s0) mw_X8_begins lk_X8_97 in_X8_begins se_X8_begins rfl (by decide) (by decide) rfl rfl (Nat.le_of_ble_eq_true rfl) (by decide) dX8_removeDependency_1 rfl (qkV (fun s1 => (qv_aload_n C dX8_removeDependency_4 rfl (qv_aload_n C dX8_removeDependency_5 rfl (qv_iload_n C dX8_removeDependency_6 rfl (qv_iload_n C dX8_removeDependency_7 rfl (qv_callV C (rest := [qR 26 0]) (cb := 0) (sb := 0) (t_X8_unlinks hl a1 a2 s1) mw_X8_unlinks lk_X8_120 in_X8_unlinks se_X8_unlinks rfl (by decide) (by decide) rfl rfl (Nat.le_of_ble_eq_true rfl) (by decide) dX8_removeDependency_8 rfl (qkI (fun r1 s2 => (qv_callV C (rest := []) (cb := 0) (sb := 0) (t_X8_ends hl r1 s2) mw_X8_ends lk_X8_104 in_X8_ends se_X8_ends rfl (by decide) (by decide) rfl rfl (Nat.le_of_ble_eq_true rfl) (by decide) dX8_removeDependency_11 rfl (qkI (fun r2 s3 => (qv_iconst C (v := (1 : Int32)) dX8_removeDependency_14 (by decide) (qv_icmp_ne C (tgt := 22) dX8_removeDependency_15 (by decide) (fun _ => (qv_iconst C (v := (1 : Int32)) dX8_removeDependency_18 (by decide) (qv_goto C (tgt := 23) dX8_removeDependency_19 (by decide) (qv_zret! C hret (qbo_nar (by decide)) dX8_removeDependency_23))))
  (fun _ => (qv_iconst C (v := (0 : Int32)) dX8_removeDependency_22 (by decide) (qv_zret! C hret (qbo_nar (by decide)) dX8_removeDependency_23)))))))))))))))))))
def f_X8_sets (a1 : Int32) (a2 : Int32) (a3 : Int32) (a4 : Int32) (a5 : Int32) (s0 : qS) : Option qO :=
  qbind (f_X8_of a1 a2 s0) (qvI (fun r1 s1 =>
  qbind (f_X8_isTask a1 s1) (qvI (fun r2 s2 =>
  qbind (f_X8_isIn a3 a4 a5 s2) (qvI (fun r3 s3 =>
  qbind (f_X8_holds r2 r3 (1 : Int32) s3) (qvI (fun r4 s4 =>
  (if r4 = 0 then (some (.inl (some (qI r1)), s4)) else
  qbind (f_X8_taskAt a1 s4) (qvI (fun r5 s5 =>
  (if qin (r5 + a2) 77 then qlet (qu s5 27 0 ((r5 + a2)).toNatClampNeg a3) (fun s6 =>
  (some (.inl (some (qI r1)), s6))) else none))) qE0))) qE0)) qE0)) qE0)) qE0
set_option maxRecDepth 100000 in
set_option maxHeartbeats 4000000 in
theorem t_X8_sets {g : qG} {l : Launch} (hl : l.stackTraces = false) (a1 : Int32) (a2 : Int32) (a3 : Int32) (a4 : Int32) (a5 : Int32) (s0 : qS) : qM g l 4 0 0 (.code yX8_sets cX8_sets 7 (some .int)) yX8_sets [qR 26 0, qI a1, qI a2, qI a3, qI a4, qI a5] s0 (f_X8_sets a1 a2 a3 a4 a5 s0) := by
  refine qM_of (by decide +kernel) hl (List.forall_mem_cons.mpr ⟨rfl, (List.forall_mem_cons.mpr ⟨rfl, (List.forall_mem_cons.mpr ⟨rfl, (List.forall_mem_cons.mpr ⟨rfl, (List.forall_mem_cons.mpr ⟨rfl, (List.forall_mem_cons.mpr ⟨rfl, (fun _ h => absurd h List.not_mem_nil)⟩)⟩)⟩)⟩)⟩)⟩) (Nat.le_of_ble_eq_true rfl) ?_
  intro p e s m args below meth c C hret ht
  show qV p l e _ s m args below meth c g _ _ _ _ _ 0 [some (qR 26 0), some (qI a1), some (qI a2), some (qI a3), some (qI a4), some (qI a5), none] [] s0
  exact (qv_aload_n C dX8_sets_0 rfl (qv_iload_n C dX8_sets_1 rfl (qv_iload_n C dX8_sets_2 rfl (qv_callV C (rest := []) (cb := 0) (sb := 0) (t_X8_of hl a1 a2 s0) mw_X8_of lk_X8_87 in_X8_of se_X8_of rfl (by decide) (by decide) rfl rfl (Nat.le_of_ble_eq_true rfl) (by decide) dX8_sets_3 rfl (qkI (fun r1 s1 => (qv_istore C dX8_sets_6 (by decide) rfl (qv_aload_n C dX8_sets_8 rfl (qv_aload_n C dX8_sets_9 rfl (qv_iload_n C dX8_sets_10 rfl (qv_callV C (rest := [qR 26 0]) (cb := 0) (sb := 0) (t_X8_isTask hl a1 s1) mw_X8_isTask lk_X8_79 in_X8_isTask se_X8_isTask rfl (by decide) (by decide) rfl rfl (Nat.le_of_ble_eq_true rfl) (by decide) dX8_sets_11 rfl (qkI (fun r2 s2 => (qv_iload_n C dX8_sets_14 rfl (qv_iload C dX8_sets_15 rfl (qv_iload C dX8_sets_17 rfl (qv_callS C (rest := [qI r2, qR 26 0]) (cb := 0) (sb := 0) (t_X8_isIn hl a3 a4 a5 s2) mw_X8_isIn lk_X8_75 st_X8_isIn rfl (Nat.le_of_ble_eq_true rfl) (by decide) dX8_sets_19 rfl (qkI (fun r3 s3 => (qv_iconst C (v := (1 : Int32)) dX8_sets_22 (by decide) (qv_callV C (rest := []) (cb := 0) (sb := 0) (t_X8_holds hl r2 r3 (1 : Int32) s3) mw_X8_holds lk_X8_53 in_X8_holds se_X8_holds rfl (by decide) (by decide) rfl rfl (Nat.le_of_ble_eq_true rfl) (by decide) dX8_sets_23 rfl (qkI (fun r4 s4 => (qv_if_eq C (tgt := 41) dX8_sets_26 (by decide) (fun _ => (qv_iload C dX8_sets_41 rfl (qv_iret C hret dX8_sets_43)))
  (fun _ => (qv_aload_n C dX8_sets_29 rfl (qv_getR C (j2 := 0) fl_X8_9 cl_X8 rfl (by decide) (by decide) (by decide) rfl rfl dX8_sets_30 (qv_iload_n C dX8_sets_33 rfl (qv_callS C (rest := [qR 27 0]) (cb := 0) (sb := 0) (t_X8_taskAt hl a1 s4) mw_X8_taskAt lk_X8_83 st_X8_taskAt rfl (Nat.le_of_ble_eq_true rfl) (by decide) dX8_sets_34 rfl (qkI (fun r5 s5 => (qv_iload_n C dX8_sets_37 rfl (qv_iadd C dX8_sets_38 (qv_iload_n C dX8_sets_39 rfl (qv_iast C rfl rfl (by decide) (by decide) dX8_sets_40 (fun _ => (qv_let (fun s6 => (qv_iload C dX8_sets_41 rfl (qv_iret C hret dX8_sets_43))))))))))))))))))))))))))))))))))))))))
def f_X8_setDuration (a1 : Int32) (a2 : Int32) (s0 : qS) : Option qO :=
  qbind (f_X8_begins  s0) (qvV (fun s1 =>
  qbind (f_X8_sets a1 (0 : Int32) a2 (1 : Int32) (9 : Int32) s1) (qvI (fun r1 s2 =>
  qbind (f_X8_ends r1 s2) (qvI (fun r2 s3 =>
  (some (.inl (some (qI r2)), s3)))) qE0)) qE0)) qE0
set_option maxRecDepth 100000 in
set_option maxHeartbeats 4000000 in
theorem t_X8_setDuration {g : qG} {l : Launch} (hl : l.stackTraces = false) (a1 : Int32) (a2 : Int32) (s0 : qS) : qM g l 5 0 0 (.code yX8_setDuration cX8_setDuration 3 (some .int)) yX8_setDuration [qR 26 0, qI a1, qI a2] s0 (f_X8_setDuration a1 a2 s0) := by
  refine qM_of (by decide +kernel) hl (List.forall_mem_cons.mpr ⟨rfl, (List.forall_mem_cons.mpr ⟨rfl, (List.forall_mem_cons.mpr ⟨rfl, (fun _ h => absurd h List.not_mem_nil)⟩)⟩)⟩) (Nat.le_of_ble_eq_true rfl) ?_
  intro p e s m args below meth c C hret ht
  show qV p l e _ s m args below meth c g _ _ _ _ _ 0 [some (qR 26 0), some (qI a1), some (qI a2)] [] s0
  exact (qv_aload_n C dX8_setDuration_0 rfl (qv_callV C (rest := []) (cb := 0) (sb := 0) (t_X8_begins hl  s0) mw_X8_begins lk_X8_97 in_X8_begins se_X8_begins rfl (by decide) (by decide) rfl rfl (Nat.le_of_ble_eq_true rfl) (by decide) dX8_setDuration_1 rfl (qkV (fun s1 => (qv_aload_n C dX8_setDuration_4 rfl (qv_aload_n C dX8_setDuration_5 rfl (qv_iload_n C dX8_setDuration_6 rfl (qv_iconst C (v := (0 : Int32)) dX8_setDuration_7 (by decide) (qv_iload_n C dX8_setDuration_8 rfl (qv_iconst C (v := (1 : Int32)) dX8_setDuration_9 (by decide) (qv_bipush C (v := (9 : Int32)) dX8_setDuration_10 (by decide) (qv_callV C (rest := [qR 26 0]) (cb := 0) (sb := 0) (t_X8_sets hl a1 (0 : Int32) a2 (1 : Int32) (9 : Int32) s1) mw_X8_sets lk_X8_123 in_X8_sets se_X8_sets rfl (by decide) (by decide) rfl rfl (Nat.le_of_ble_eq_true rfl) (by decide) dX8_setDuration_12 rfl (qkI (fun r1 s2 => (qv_callV C (rest := []) (cb := 0) (sb := 0) (t_X8_ends hl r1 s2) mw_X8_ends lk_X8_104 in_X8_ends se_X8_ends rfl (by decide) (by decide) rfl rfl (Nat.le_of_ble_eq_true rfl) (by decide) dX8_setDuration_15 rfl (qkI (fun r2 s3 => (qv_iret C hret dX8_setDuration_18))))))))))))))))))
def f_X8_setRelease (a1 : Int32) (a2 : Int32) (s0 : qS) : Option qO :=
  qbind (f_X8_begins  s0) (qvV (fun s1 =>
  qbind (f_X8_sets a1 (3 : Int32) a2 (0 : Int32) (30 : Int32) s1) (qvI (fun r1 s2 =>
  qbind (f_X8_ends r1 s2) (qvI (fun r2 s3 =>
  (some (.inl (some (qI r2)), s3)))) qE0)) qE0)) qE0
set_option maxRecDepth 100000 in
set_option maxHeartbeats 4000000 in
theorem t_X8_setRelease {g : qG} {l : Launch} (hl : l.stackTraces = false) (a1 : Int32) (a2 : Int32) (s0 : qS) : qM g l 5 0 0 (.code yX8_setRelease cX8_setRelease 3 (some .int)) yX8_setRelease [qR 26 0, qI a1, qI a2] s0 (f_X8_setRelease a1 a2 s0) := by
  refine qM_of (by decide +kernel) hl (List.forall_mem_cons.mpr ⟨rfl, (List.forall_mem_cons.mpr ⟨rfl, (List.forall_mem_cons.mpr ⟨rfl, (fun _ h => absurd h List.not_mem_nil)⟩)⟩)⟩) (Nat.le_of_ble_eq_true rfl) ?_
  intro p e s m args below meth c C hret ht
  show qV p l e _ s m args below meth c g _ _ _ _ _ 0 [some (qR 26 0), some (qI a1), some (qI a2)] [] s0
  exact (qv_aload_n C dX8_setRelease_0 rfl (qv_callV C (rest := []) (cb := 0) (sb := 0) (t_X8_begins hl  s0) mw_X8_begins lk_X8_97 in_X8_begins se_X8_begins rfl (by decide) (by decide) rfl rfl (Nat.le_of_ble_eq_true rfl) (by decide) dX8_setRelease_1 rfl (qkV (fun s1 => (qv_aload_n C dX8_setRelease_4 rfl (qv_aload_n C dX8_setRelease_5 rfl (qv_iload_n C dX8_setRelease_6 rfl (qv_iconst C (v := (3 : Int32)) dX8_setRelease_7 (by decide) (qv_iload_n C dX8_setRelease_8 rfl (qv_iconst C (v := (0 : Int32)) dX8_setRelease_9 (by decide) (qv_bipush C (v := (30 : Int32)) dX8_setRelease_10 (by decide) (qv_callV C (rest := [qR 26 0]) (cb := 0) (sb := 0) (t_X8_sets hl a1 (3 : Int32) a2 (0 : Int32) (30 : Int32) s1) mw_X8_sets lk_X8_123 in_X8_sets se_X8_sets rfl (by decide) (by decide) rfl rfl (Nat.le_of_ble_eq_true rfl) (by decide) dX8_setRelease_12 rfl (qkI (fun r1 s2 => (qv_callV C (rest := []) (cb := 0) (sb := 0) (t_X8_ends hl r1 s2) mw_X8_ends lk_X8_104 in_X8_ends se_X8_ends rfl (by decide) (by decide) rfl rfl (Nat.le_of_ble_eq_true rfl) (by decide) dX8_setRelease_15 rfl (qkI (fun r2 s3 => (qv_iret C hret dX8_setRelease_18))))))))))))))))))
def j_X8_limits_23 (v1 : Int32) (v2 : Int32) (w1 : Int32) (s0 : qS) : Option qO :=
  qbind (f_X8_goes w1 s0) (qvI (fun r2 s2 =>
  (if r2 = 0 then (some (.inl (some (qI (0 : Int32))), s2)) else
  (if qin ((2 : Int32) + v1) 77 then (if qin ((2 : Int32) + v1) 77 then qlet (qu s2 27 0 (((2 : Int32) + v1)).toNatClampNeg v2) (fun s3 =>
  (some (.inl (some (qI (s2 27 0 (((2 : Int32) + v1)).toNatClampNeg))), s3))) else none) else none)))) qE0
set_option maxRecDepth 100000 in
set_option maxHeartbeats 4000000 in
theorem jt_X8_limits_23 {p : Program} {l : Launch} {e : Env} {s : State} {m : MethodId} {args : Array Value} {below : List Frame} {meth : Method} {c : Code} {g : qG} (hl : l.stackTraces = false) (C : qC p l s m meth c cX8_limits 4 RX8 g) (hret : meth.sig.returnType = (some .int)) (ht : ∀ x ∈ c.exceptionTable.toList, False)  (v1 : Int32) (v2 : Int32) (w1 : Int32) (s0 : qS) : qV p l e (qrm 3 0 0) s m args below meth c g 4 (qQf g below args s (qrm 3 0 0)) (j_X8_limits_23  v1 v2 w1 s0) 0 0 23 [some (qR 26 0), some (qI v1), some (qI v2), none] [qI w1, qR 26 0] s0 :=
  (qv_callV C (rest := []) (cb := 0) (sb := 0) (t_X8_goes hl w1 s0) mw_X8_goes lk_X8_67 in_X8_goes se_X8_goes rfl (by decide) (by decide) rfl rfl (Nat.le_of_ble_eq_true rfl) (by decide) dX8_limits_23 rfl (qkI (fun r2 s2 => (qv_if_ne C (tgt := 31) dX8_limits_26 (by decide) (fun _ => (qv_iconst C (v := (0 : Int32)) dX8_limits_29 (by decide) (qv_iret C hret dX8_limits_30)))
  (fun _ => (qv_aload_n C dX8_limits_31 rfl (qv_getR C (j2 := 0) fl_X8_9 cl_X8 rfl (by decide) (by decide) (by decide) rfl rfl dX8_limits_32 (qv_iconst C (v := (2 : Int32)) dX8_limits_35 (by decide) (qv_iload_n C dX8_limits_36 rfl (qv_iadd C dX8_limits_37 (qv_iald C rfl rfl (by decide) (by decide) dX8_limits_38 (fun _ => (qv_istore_n C dX8_limits_39 (by decide) rfl (qv_aload_n C dX8_limits_40 rfl (qv_getR C (j2 := 0) fl_X8_9 cl_X8 rfl (by decide) (by decide) (by decide) rfl rfl dX8_limits_41 (qv_iconst C (v := (2 : Int32)) dX8_limits_44 (by decide) (qv_iload_n C dX8_limits_45 rfl (qv_iadd C dX8_limits_46 (qv_iload_n C dX8_limits_47 rfl (qv_iast C rfl rfl (by decide) (by decide) dX8_limits_48 (fun _ => (qv_let (fun s3 => (qv_iload_n C dX8_limits_49 rfl (qv_iret C hret dX8_limits_50)))))))))))))))))))))))))
def f_X8_limits (a1 : Int32) (a2 : Int32) (s0 : qS) : Option qO :=
  qbind (f_X8_isResource a1 s0) (qvI (fun r1 s1 =>
  (if r1 = 0 then j_X8_limits_23  a1 a2 (0 : Int32) s1 else
  qbind (f_X8_isIn a2 (5 : Int32) (20 : Int32) s1) (qvI (fun r3 s4 =>
  (if r3 = 0 then j_X8_limits_23  a1 a2 (0 : Int32) s4 else
  j_X8_limits_23  a1 a2 (1 : Int32) s4))) qE0))) qE0
set_option maxRecDepth 100000 in
set_option maxHeartbeats 4000000 in
theorem t_X8_limits {g : qG} {l : Launch} (hl : l.stackTraces = false) (a1 : Int32) (a2 : Int32) (s0 : qS) : qM g l 3 0 0 (.code yX8_limits cX8_limits 4 (some .int)) yX8_limits [qR 26 0, qI a1, qI a2] s0 (f_X8_limits a1 a2 s0) := by
  refine qM_of (by decide +kernel) hl (List.forall_mem_cons.mpr ⟨rfl, (List.forall_mem_cons.mpr ⟨rfl, (List.forall_mem_cons.mpr ⟨rfl, (fun _ h => absurd h List.not_mem_nil)⟩)⟩)⟩) (Nat.le_of_ble_eq_true rfl) ?_
  intro p e s m args below meth c C hret ht
  show qV p l e _ s m args below meth c g _ _ _ _ _ 0 [some (qR 26 0), some (qI a1), some (qI a2), none] [] s0
  exact (qv_aload_n C dX8_limits_0 rfl (qv_iload_n C dX8_limits_1 rfl (qv_callS C (rest := [qR 26 0]) (cb := 0) (sb := 0) (t_X8_isResource hl a1 s0) mw_X8_isResource lk_X8_94 st_X8_isResource rfl (Nat.le_of_ble_eq_true rfl) (by decide) dX8_limits_2 rfl (qkI (fun r1 s1 => (qv_if_eq C (tgt := 22) dX8_limits_5 (by decide) (fun _ => (qv_iconst C (v := (0 : Int32)) dX8_limits_22 (by decide) (qV.weak [true, true, true, false] (jt_X8_limits_23 hl C hret ht  a1 a2 (0 : Int32) s1))))
  (fun _ => (qv_iload_n C dX8_limits_8 rfl (qv_iconst C (v := (5 : Int32)) dX8_limits_9 (by decide) (qv_bipush C (v := (20 : Int32)) dX8_limits_10 (by decide) (qv_callS C (rest := [qR 26 0]) (cb := 0) (sb := 0) (t_X8_isIn hl a2 (5 : Int32) (20 : Int32) s1) mw_X8_isIn lk_X8_75 st_X8_isIn rfl (Nat.le_of_ble_eq_true rfl) (by decide) dX8_limits_12 rfl (qkI (fun r3 s4 => (qv_if_eq C (tgt := 22) dX8_limits_15 (by decide) (fun _ => (qv_iconst C (v := (0 : Int32)) dX8_limits_22 (by decide) (qV.weak [true, true, true, false] (jt_X8_limits_23 hl C hret ht  a1 a2 (0 : Int32) s4))))
  (fun _ => (qv_iconst C (v := (1 : Int32)) dX8_limits_18 (by decide) (qv_goto C (tgt := 23) dX8_limits_19 (by decide) (qV.weak [true, true, true, false] (jt_X8_limits_23 hl C hret ht  a1 a2 (1 : Int32) s4)))))))))))))))))))
def f_X8_setLimit (a1 : Int32) (a2 : Int32) (s0 : qS) : Option qO :=
  qbind (f_X8_begins  s0) (qvV (fun s1 =>
  qbind (f_X8_limits a1 a2 s1) (qvI (fun r1 s2 =>
  qbind (f_X8_ends r1 s2) (qvI (fun r2 s3 =>
  (some (.inl (some (qI r2)), s3)))) qE0)) qE0)) qE0
set_option maxRecDepth 100000 in
set_option maxHeartbeats 4000000 in
theorem t_X8_setLimit {g : qG} {l : Launch} (hl : l.stackTraces = false) (a1 : Int32) (a2 : Int32) (s0 : qS) : qM g l 4 0 0 (.code yX8_setLimit cX8_setLimit 3 (some .int)) yX8_setLimit [qR 26 0, qI a1, qI a2] s0 (f_X8_setLimit a1 a2 s0) := by
  refine qM_of (by decide +kernel) hl (List.forall_mem_cons.mpr ⟨rfl, (List.forall_mem_cons.mpr ⟨rfl, (List.forall_mem_cons.mpr ⟨rfl, (fun _ h => absurd h List.not_mem_nil)⟩)⟩)⟩) (Nat.le_of_ble_eq_true rfl) ?_
  intro p e s m args below meth c C hret ht
  show qV p l e _ s m args below meth c g _ _ _ _ _ 0 [some (qR 26 0), some (qI a1), some (qI a2)] [] s0
  exact (qv_aload_n C dX8_setLimit_0 rfl (qv_callV C (rest := []) (cb := 0) (sb := 0) (t_X8_begins hl  s0) mw_X8_begins lk_X8_97 in_X8_begins se_X8_begins rfl (by decide) (by decide) rfl rfl (Nat.le_of_ble_eq_true rfl) (by decide) dX8_setLimit_1 rfl (qkV (fun s1 => (qv_aload_n C dX8_setLimit_4 rfl (qv_aload_n C dX8_setLimit_5 rfl (qv_iload_n C dX8_setLimit_6 rfl (qv_iload_n C dX8_setLimit_7 rfl (qv_callV C (rest := [qR 26 0]) (cb := 0) (sb := 0) (t_X8_limits hl a1 a2 s1) mw_X8_limits lk_X8_127 in_X8_limits se_X8_limits rfl (by decide) (by decide) rfl rfl (Nat.le_of_ble_eq_true rfl) (by decide) dX8_setLimit_8 rfl (qkI (fun r1 s2 => (qv_callV C (rest := []) (cb := 0) (sb := 0) (t_X8_ends hl r1 s2) mw_X8_ends lk_X8_104 in_X8_ends se_X8_ends rfl (by decide) (by decide) rfl rfl (Nat.le_of_ble_eq_true rfl) (by decide) dX8_setLimit_11 rfl (qkI (fun r2 s3 => (qv_iret C hret dX8_setLimit_14)))))))))))))))
def b_X8_lastOf_4 (k1 : Nat) (j1 : Nat) (rk4 : Int32 → Int32 → qS → Option qO) (v2 : Int32) (v3 : Int32) (s0 : qS) : Option qO :=
  (if (s0 27 0 0) ≤ v3 then (some (.inl (some (qI v2)), s0)) else
  (if qin v3 (qlen k1) then qbind (f_X8_of v3 (0 : Int32) s0) (qvI (fun r1 s1 =>
  rk4 (qmax v2 ((s0 k1 j1 (v3).toNatClampNeg) + r1)) (v3 + (1 : Int32)) s1)) qE0 else none))
def l_X8_lastOf_4 (k1 : Nat) (j1 : Nat) : Nat → Int32 → Int32 → qS → Option qO
  | 0, _, _, _ => none
  | n + 1, v2, v3, s0 => b_X8_lastOf_4 k1 j1 (l_X8_lastOf_4 k1 j1 n) v2 v3 s0
set_option maxRecDepth 100000 in
set_option maxHeartbeats 4000000 in
theorem bt_X8_lastOf_4 {p : Program} {l : Launch} {e : Env} {s : State} {m : MethodId} {args : Array Value} {below : List Frame} {meth : Method} {c : Code} {g : qG} (hl : l.stackTraces = false) (C : qC p l s m meth c cX8_lastOf 4 RX8 g) (hret : meth.sig.returnType = (some .int)) (ht : ∀ x ∈ c.exceptionTable.toList, False) {k1 j1 : Nat} (hs1 : qsh k1 = 1) (hk1 : k1 < 40) (hj1 : j1 < qn k1) (rk4 : Int32 → Int32 → qS → Option qO) (hrk4 : ∀ (v2 : Int32) (v3 : Int32) (s0 : qS), qV p l e (qrm 4 0 0) s m args below meth c g 4 (qQf g below args s (qrm 4 0 0)) (rk4 v2 v3 s0) 0 0 4 [some (qR 26 0), some (qR k1 j1), some (qI v2), some (qI v3)] [] s0) (v2 : Int32) (v3 : Int32) (s0 : qS) : qV p l e (qrm 4 0 0) s m args below meth c g 4 (qQf g below args s (qrm 4 0 0)) (b_X8_lastOf_4 k1 j1 rk4 v2 v3 s0) 0 0 4 [some (qR 26 0), some (qR k1 j1), some (qI v2), some (qI v3)] [] s0 :=
  (qv_iload_n C dX8_lastOf_4 rfl (qv_aload_n C dX8_lastOf_5 rfl (qv_getR C (j2 := 0) fl_X8_9 cl_X8 rfl (by decide) (by decide) (by decide) rfl rfl dX8_lastOf_6 (qv_iconst C (v := (0 : Int32)) dX8_lastOf_9 (by decide) (qv_iald! C rfl (by decide) (by decide) (by decide) dX8_lastOf_10 (qv_icmp_ge C (tgt := 35) dX8_lastOf_11 (by decide) (fun _ => (qv_iload_n C dX8_lastOf_35 rfl (qv_iret C hret dX8_lastOf_36)))
  (fun _ => (qv_iload_n C dX8_lastOf_14 rfl (qv_aload_n C dX8_lastOf_15 rfl (qv_iload_n C dX8_lastOf_16 rfl (qv_iald C rfl hs1 hk1 hj1 dX8_lastOf_17 (fun _ => (qv_aload_n C dX8_lastOf_18 rfl (qv_iload_n C dX8_lastOf_19 rfl (qv_iconst C (v := (0 : Int32)) dX8_lastOf_20 (by decide) (qv_callV C (rest := [qI (s0 k1 j1 (v3).toNatClampNeg), qI v2]) (cb := 0) (sb := 0) (t_X8_of hl v3 (0 : Int32) s0) mw_X8_of lk_X8_87 in_X8_of se_X8_of rfl (by decide) (by decide) rfl rfl (Nat.le_of_ble_eq_true rfl) (by decide) dX8_lastOf_21 rfl (qkI (fun r1 s1 => (qv_iadd C dX8_lastOf_24 (qv_mmax C lk_X8_141 mm_max (Nat.le_of_ble_eq_true rfl) (by decide) dX8_lastOf_25 (qv_istore_n C dX8_lastOf_28 (by decide) rfl (qv_iinc C (v := (v3 + (1 : Int32))) dX8_lastOf_29 rfl rfl (by decide) rfl (qv_goto C (tgt := 4) dX8_lastOf_32 (by decide) (qV.weak [true, true, true, true] (hrk4 (qmax v2 ((s0 k1 j1 (v3).toNatClampNeg) + r1)) (v3 + (1 : Int32)) s1)))))))))))))))))))))))))
theorem lt_X8_lastOf_4 {p : Program} {l : Launch} {e : Env} {s : State} {m : MethodId} {args : Array Value} {below : List Frame} {meth : Method} {c : Code} {g : qG} (hl : l.stackTraces = false) (C : qC p l s m meth c cX8_lastOf 4 RX8 g) (hret : meth.sig.returnType = (some .int)) (ht : ∀ x ∈ c.exceptionTable.toList, False) {k1 j1 : Nat} (hs1 : qsh k1 = 1) (hk1 : k1 < 40) (hj1 : j1 < qn k1) : ∀ (n : Nat) (v2 : Int32) (v3 : Int32) (s0 : qS), qV p l e (qrm 4 0 0) s m args below meth c g 4 (qQf g below args s (qrm 4 0 0)) (l_X8_lastOf_4 k1 j1 n v2 v3 s0) 0 0 4 [some (qR 26 0), some (qR k1 j1), some (qI v2), some (qI v3)] [] s0
  | 0, _, _, _ => qV.no
  | n + 1, v2, v3, s0 => bt_X8_lastOf_4 hl C hret ht hs1 hk1 hj1 _ (lt_X8_lastOf_4 hl C hret ht hs1 hk1 hj1 n) v2 v3 s0
def f_X8_lastOf (k1 j1 : Nat) (s0 : qS) : Option qO :=
  l_X8_lastOf_4 k1 j1 qFU (0 : Int32) (0 : Int32) s0
set_option maxRecDepth 100000 in
set_option maxHeartbeats 4000000 in
theorem t_X8_lastOf {g : qG} {l : Launch} (hl : l.stackTraces = false) {k1 j1 : Nat} (hs1 : qsh k1 = 1) (hk1 : k1 < 40) (hj1 : j1 < qn k1) (s0 : qS) : qM g l 4 0 0 (.code yX8_lastOf cX8_lastOf 4 (some .int)) yX8_lastOf [qR 26 0, qR k1 j1] s0 (f_X8_lastOf k1 j1 s0) := by
  refine qM_of (by decide +kernel) hl (List.forall_mem_cons.mpr ⟨rfl, (List.forall_mem_cons.mpr ⟨rfl, (fun _ h => absurd h List.not_mem_nil)⟩)⟩) (Nat.le_of_ble_eq_true rfl) ?_
  intro p e s m args below meth c C hret ht
  show qV p l e _ s m args below meth c g _ _ _ _ _ 0 [some (qR 26 0), some (qR k1 j1), none, none] [] s0
  exact (qv_iconst C (v := (0 : Int32)) dX8_lastOf_0 (by decide) (qv_istore_n C dX8_lastOf_1 (by decide) rfl (qv_iconst C (v := (0 : Int32)) dX8_lastOf_2 (by decide) (qv_istore_n C dX8_lastOf_3 (by decide) rfl (qV.weak [true, true, true, true] (lt_X8_lastOf_4 hl C hret ht hs1 hk1 hj1 qFU (0 : Int32) (0 : Int32) s0))))))
def b_X8_soonest_10 (k2 : Nat) (j2 : Nat) (rk10 : Int32 → Int32 → Int32 → qS → Option qO) (v1 : Int32) (v3 : Int32) (v4 : Int32) (s0 : qS) : Option qO :=
  (if (s0 27 0 0) ≤ v4 then (some (.inl (some (qI v3)), s0)) else
  qbind (f_X8_isNeeded v1 v4 s0) (qvI (fun r2 s2 =>
  (if r2 = 0 then rk10 v1 v3 (v4 + (1 : Int32)) s2 else
  (if qin v4 (qlen k2) then qbind (f_X8_of v4 (0 : Int32) s2) (qvI (fun r3 s3 =>
  rk10 v1 (qmax v3 ((s2 k2 j2 (v4).toNatClampNeg) + r3)) (v4 + (1 : Int32)) s3)) qE0 else none)))) qE0)
def l_X8_soonest_10 (k2 : Nat) (j2 : Nat) : Nat → Int32 → Int32 → Int32 → qS → Option qO
  | 0, _, _, _, _ => none
  | n + 1, v1, v3, v4, s0 => b_X8_soonest_10 k2 j2 (l_X8_soonest_10 k2 j2 n) v1 v3 v4 s0
set_option maxRecDepth 100000 in
set_option maxHeartbeats 4000000 in
theorem bt_X8_soonest_10 {p : Program} {l : Launch} {e : Env} {s : State} {m : MethodId} {args : Array Value} {below : List Frame} {meth : Method} {c : Code} {g : qG} (hl : l.stackTraces = false) (C : qC p l s m meth c cX8_soonest 5 RX8 g) (hret : meth.sig.returnType = (some .int)) (ht : ∀ x ∈ c.exceptionTable.toList, False) {k2 j2 : Nat} (hs2 : qsh k2 = 1) (hk2 : k2 < 40) (hj2 : j2 < qn k2) (rk10 : Int32 → Int32 → Int32 → qS → Option qO) (hrk10 : ∀ (v1 : Int32) (v3 : Int32) (v4 : Int32) (s0 : qS), qV p l e (qrm 5 0 0) s m args below meth c g 5 (qQf g below args s (qrm 5 0 0)) (rk10 v1 v3 v4 s0) 0 0 10 [some (qR 26 0), some (qI v1), some (qR k2 j2), some (qI v3), some (qI v4)] [] s0) (v1 : Int32) (v3 : Int32) (v4 : Int32) (s0 : qS) : qV p l e (qrm 5 0 0) s m args below meth c g 5 (qQf g below args s (qrm 5 0 0)) (b_X8_soonest_10 k2 j2 rk10 v1 v3 v4 s0) 0 0 10 [some (qR 26 0), some (qI v1), some (qR k2 j2), some (qI v3), some (qI v4)] [] s0 :=
  (qv_iload C dX8_soonest_10 rfl (qv_aload_n C dX8_soonest_12 rfl (qv_getR C (j2 := 0) fl_X8_9 cl_X8 rfl (by decide) (by decide) (by decide) rfl rfl dX8_soonest_13 (qv_iconst C (v := (0 : Int32)) dX8_soonest_16 (by decide) (qv_iald! C rfl (by decide) (by decide) (by decide) dX8_soonest_17 (qv_icmp_ge C (tgt := 58) dX8_soonest_18 (by decide) (fun _ => (qv_iload_n C dX8_soonest_58 rfl (qv_iret C hret dX8_soonest_59)))
  (fun _ => (qv_aload_n C dX8_soonest_21 rfl (qv_iload_n C dX8_soonest_22 rfl (qv_iload C dX8_soonest_23 rfl (qv_callV C (rest := []) (cb := 0) (sb := 0) (t_X8_isNeeded hl v1 v4 s0) mw_X8_isNeeded lk_X8_114 in_X8_isNeeded se_X8_isNeeded rfl (by decide) (by decide) rfl rfl (Nat.le_of_ble_eq_true rfl) (by decide) dX8_soonest_25 rfl (qkI (fun r2 s2 => (qv_if_eq C (tgt := 50) dX8_soonest_28 (by decide) (fun _ => (qv_iload_n C dX8_soonest_50 rfl (qv_istore_n C dX8_soonest_51 (by decide) rfl (qv_iinc C (v := (v4 + (1 : Int32))) dX8_soonest_52 rfl rfl (by decide) rfl (qv_goto C (tgt := 10) dX8_soonest_55 (by decide) (qV.weak [true, true, true, true, true] (hrk10 v1 v3 (v4 + (1 : Int32)) s2)))))))
  (fun _ => (qv_iload_n C dX8_soonest_31 rfl (qv_aload_n C dX8_soonest_32 rfl (qv_iload C dX8_soonest_33 rfl (qv_iald C rfl hs2 hk2 hj2 dX8_soonest_35 (fun _ => (qv_aload_n C dX8_soonest_36 rfl (qv_iload C dX8_soonest_37 rfl (qv_iconst C (v := (0 : Int32)) dX8_soonest_39 (by decide) (qv_callV C (rest := [qI (s2 k2 j2 (v4).toNatClampNeg), qI v3]) (cb := 0) (sb := 0) (t_X8_of hl v4 (0 : Int32) s2) mw_X8_of lk_X8_87 in_X8_of se_X8_of rfl (by decide) (by decide) rfl rfl (Nat.le_of_ble_eq_true rfl) (by decide) dX8_soonest_40 rfl (qkI (fun r3 s3 => (qv_iadd C dX8_soonest_43 (qv_mmax C lk_X8_141 mm_max (Nat.le_of_ble_eq_true rfl) (by decide) dX8_soonest_44 (qv_goto C (tgt := 51) dX8_soonest_47 (by decide) (qv_istore_n C dX8_soonest_51 (by decide) rfl (qv_iinc C (v := (v4 + (1 : Int32))) dX8_soonest_52 rfl rfl (by decide) rfl (qv_goto C (tgt := 10) dX8_soonest_55 (by decide) (qV.weak [true, true, true, true, true] (hrk10 v1 (qmax v3 ((s2 k2 j2 (v4).toNatClampNeg) + r3)) (v4 + (1 : Int32)) s3))))))))))))))))))))))))))))))))))
theorem lt_X8_soonest_10 {p : Program} {l : Launch} {e : Env} {s : State} {m : MethodId} {args : Array Value} {below : List Frame} {meth : Method} {c : Code} {g : qG} (hl : l.stackTraces = false) (C : qC p l s m meth c cX8_soonest 5 RX8 g) (hret : meth.sig.returnType = (some .int)) (ht : ∀ x ∈ c.exceptionTable.toList, False) {k2 j2 : Nat} (hs2 : qsh k2 = 1) (hk2 : k2 < 40) (hj2 : j2 < qn k2) : ∀ (n : Nat) (v1 : Int32) (v3 : Int32) (v4 : Int32) (s0 : qS), qV p l e (qrm 5 0 0) s m args below meth c g 5 (qQf g below args s (qrm 5 0 0)) (l_X8_soonest_10 k2 j2 n v1 v3 v4 s0) 0 0 10 [some (qR 26 0), some (qI v1), some (qR k2 j2), some (qI v3), some (qI v4)] [] s0
  | 0, _, _, _, _ => qV.no
  | n + 1, v1, v3, v4, s0 => bt_X8_soonest_10 hl C hret ht hs2 hk2 hj2 _ (lt_X8_soonest_10 hl C hret ht hs2 hk2 hj2 n) v1 v3 v4 s0
def f_X8_soonest (a1 : Int32) (k2 j2 : Nat) (s0 : qS) : Option qO :=
  qbind (f_X8_of a1 (3 : Int32) s0) (qvI (fun r1 s1 =>
  l_X8_soonest_10 k2 j2 qFU a1 r1 (0 : Int32) s1)) qE0
set_option maxRecDepth 100000 in
set_option maxHeartbeats 4000000 in
theorem t_X8_soonest {g : qG} {l : Launch} (hl : l.stackTraces = false) (a1 : Int32) {k2 j2 : Nat} (hs2 : qsh k2 = 1) (hk2 : k2 < 40) (hj2 : j2 < qn k2) (s0 : qS) : qM g l 5 0 0 (.code yX8_soonest cX8_soonest 5 (some .int)) yX8_soonest [qR 26 0, qI a1, qR k2 j2] s0 (f_X8_soonest a1 k2 j2 s0) := by
  refine qM_of (by decide +kernel) hl (List.forall_mem_cons.mpr ⟨rfl, (List.forall_mem_cons.mpr ⟨rfl, (List.forall_mem_cons.mpr ⟨rfl, (fun _ h => absurd h List.not_mem_nil)⟩)⟩)⟩) (Nat.le_of_ble_eq_true rfl) ?_
  intro p e s m args below meth c C hret ht
  show qV p l e _ s m args below meth c g _ _ _ _ _ 0 [some (qR 26 0), some (qI a1), some (qR k2 j2), none, none] [] s0
  exact (qv_aload_n C dX8_soonest_0 rfl (qv_iload_n C dX8_soonest_1 rfl (qv_iconst C (v := (3 : Int32)) dX8_soonest_2 (by decide) (qv_callV C (rest := []) (cb := 0) (sb := 0) (t_X8_of hl a1 (3 : Int32) s0) mw_X8_of lk_X8_87 in_X8_of se_X8_of rfl (by decide) (by decide) rfl rfl (Nat.le_of_ble_eq_true rfl) (by decide) dX8_soonest_3 rfl (qkI (fun r1 s1 => (qv_istore_n C dX8_soonest_6 (by decide) rfl (qv_iconst C (v := (0 : Int32)) dX8_soonest_7 (by decide) (qv_istore C dX8_soonest_8 (by decide) rfl (qV.weak [true, true, true, true, true] (lt_X8_soonest_10 hl C hret ht hs2 hk2 hj2 qFU a1 r1 (0 : Int32) s1)))))))))))
def b_X8_puts_2 (rk2 : Int32 → Int32 → qS → Option qO) (v1 : Int32) (v2 : Int32) (s0 : qS) : Option qO :=
  (if (s0 27 0 0) ≤ v2 then (some (.inl none, s0)) else
  qbind (f_X8_isNeeded v2 v1 s0) (qvI (fun r1 s1 =>
  (if r1 = 0 then (if qin v1 12 then (if qin v1 12 then qlet (qu s1 32 0 (v1).toNatClampNeg (s1 32 0 (v1).toNatClampNeg)) (fun s2 =>
  rk2 v1 (v2 + (1 : Int32)) s2) else none) else none) else
  (if qin v1 12 then (if qin v2 12 then qbind (f_X8_of v1 (0 : Int32) s1) (qvI (fun r2 s3 =>
  (if qin v1 12 then qlet (qu s3 32 0 (v1).toNatClampNeg (qmin (s1 32 0 (v1).toNatClampNeg) ((s1 32 0 (v2).toNatClampNeg) - r2))) (fun s4 =>
  rk2 v1 (v2 + (1 : Int32)) s4) else none))) qE0 else none) else none)))) qE0)
def l_X8_puts_2 : Nat → Int32 → Int32 → qS → Option qO
  | 0, _, _, _ => none
  | n + 1, v1, v2, s0 => b_X8_puts_2  (l_X8_puts_2  n) v1 v2 s0
set_option maxRecDepth 100000 in
set_option maxHeartbeats 4000000 in
theorem bt_X8_puts_2 {p : Program} {l : Launch} {e : Env} {s : State} {m : MethodId} {args : Array Value} {below : List Frame} {meth : Method} {c : Code} {g : qG} (hl : l.stackTraces = false) (C : qC p l s m meth c cX8_puts 3 RX8 g) (hret : meth.sig.returnType = none) (ht : ∀ x ∈ c.exceptionTable.toList, False)  (rk2 : Int32 → Int32 → qS → Option qO) (hrk2 : ∀ (v1 : Int32) (v2 : Int32) (s0 : qS), qV p l e (qrm 5 0 0) s m args below meth c g 3 (qQf g below args s (qrm 5 0 0)) (rk2 v1 v2 s0) 0 0 2 [some (qR 26 0), some (qI v1), some (qI v2)] [] s0) (v1 : Int32) (v2 : Int32) (s0 : qS) : qV p l e (qrm 5 0 0) s m args below meth c g 3 (qQf g below args s (qrm 5 0 0)) (b_X8_puts_2  rk2 v1 v2 s0) 0 0 2 [some (qR 26 0), some (qI v1), some (qI v2)] [] s0 :=
  (qv_iload_n C dX8_puts_2 rfl (qv_aload_n C dX8_puts_3 rfl (qv_getR C (j2 := 0) fl_X8_9 cl_X8 rfl (by decide) (by decide) (by decide) rfl rfl dX8_puts_4 (qv_iconst C (v := (0 : Int32)) dX8_puts_7 (by decide) (qv_iald! C rfl (by decide) (by decide) (by decide) dX8_puts_8 (qv_icmp_ge C (tgt := 64) dX8_puts_9 (by decide) (fun _ => (qv_vret C hret dX8_puts_64))
  (fun _ => (qv_aload_n C dX8_puts_12 rfl (qv_getR C (j2 := 0) fl_X8_32 cl_X8 rfl (by decide) (by decide) (by decide) rfl rfl dX8_puts_13 (qv_iload_n C dX8_puts_16 rfl (qv_aload_n C dX8_puts_17 rfl (qv_iload_n C dX8_puts_18 rfl (qv_iload_n C dX8_puts_19 rfl (qv_callV C (rest := [qI v1, qR 32 0]) (cb := 0) (sb := 0) (t_X8_isNeeded hl v2 v1 s0) mw_X8_isNeeded lk_X8_114 in_X8_isNeeded se_X8_isNeeded rfl (by decide) (by decide) rfl rfl (Nat.le_of_ble_eq_true rfl) (by decide) dX8_puts_20 rfl (qkI (fun r1 s1 => (qv_if_eq C (tgt := 51) dX8_puts_23 (by decide) (fun _ => (qv_aload_n C dX8_puts_51 rfl (qv_getR C (j2 := 0) fl_X8_32 cl_X8 rfl (by decide) (by decide) (by decide) rfl rfl dX8_puts_52 (qv_iload_n C dX8_puts_55 rfl (qv_iald C rfl rfl (by decide) (by decide) dX8_puts_56 (fun _ => (qv_iast C rfl rfl (by decide) (by decide) dX8_puts_57 (fun _ => (qv_let (fun s2 => (qv_iinc C (v := (v2 + (1 : Int32))) dX8_puts_58 rfl rfl (by decide) rfl (qv_goto C (tgt := 2) dX8_puts_61 (by decide) (qV.weak [true, true, true] (hrk2 v1 (v2 + (1 : Int32)) s2))))))))))))))
  (fun _ => (qv_aload_n C dX8_puts_26 rfl (qv_getR C (j2 := 0) fl_X8_32 cl_X8 rfl (by decide) (by decide) (by decide) rfl rfl dX8_puts_27 (qv_iload_n C dX8_puts_30 rfl (qv_iald C rfl rfl (by decide) (by decide) dX8_puts_31 (fun _ => (qv_aload_n C dX8_puts_32 rfl (qv_getR C (j2 := 0) fl_X8_32 cl_X8 rfl (by decide) (by decide) (by decide) rfl rfl dX8_puts_33 (qv_iload_n C dX8_puts_36 rfl (qv_iald C rfl rfl (by decide) (by decide) dX8_puts_37 (fun _ => (qv_aload_n C dX8_puts_38 rfl (qv_iload_n C dX8_puts_39 rfl (qv_iconst C (v := (0 : Int32)) dX8_puts_40 (by decide) (qv_callV C (rest := [qI (s1 32 0 (v2).toNatClampNeg), qI (s1 32 0 (v1).toNatClampNeg), qI v1, qR 32 0]) (cb := 0) (sb := 0) (t_X8_of hl v1 (0 : Int32) s1) mw_X8_of lk_X8_87 in_X8_of se_X8_of rfl (by decide) (by decide) rfl rfl (Nat.le_of_ble_eq_true rfl) (by decide) dX8_puts_41 rfl (qkI (fun r2 s3 => (qv_isub C dX8_puts_44 (qv_mmin C lk_X8_154 mm_min (Nat.le_of_ble_eq_true rfl) (by decide) dX8_puts_45 (qv_goto C (tgt := 57) dX8_puts_48 (by decide) (qv_iast C rfl rfl (by decide) (by decide) dX8_puts_57 (fun _ => (qv_let (fun s4 => (qv_iinc C (v := (v2 + (1 : Int32))) dX8_puts_58 rfl rfl (by decide) rfl (qv_goto C (tgt := 2) dX8_puts_61 (by decide) (qV.weak [true, true, true] (hrk2 v1 (v2 + (1 : Int32)) s4)))))))))))))))))))))))))))))))))))))))))))))
theorem lt_X8_puts_2 {p : Program} {l : Launch} {e : Env} {s : State} {m : MethodId} {args : Array Value} {below : List Frame} {meth : Method} {c : Code} {g : qG} (hl : l.stackTraces = false) (C : qC p l s m meth c cX8_puts 3 RX8 g) (hret : meth.sig.returnType = none) (ht : ∀ x ∈ c.exceptionTable.toList, False)  : ∀ (n : Nat) (v1 : Int32) (v2 : Int32) (s0 : qS), qV p l e (qrm 5 0 0) s m args below meth c g 3 (qQf g below args s (qrm 5 0 0)) (l_X8_puts_2  n v1 v2 s0) 0 0 2 [some (qR 26 0), some (qI v1), some (qI v2)] [] s0
  | 0, _, _, _ => qV.no
  | n + 1, v1, v2, s0 => bt_X8_puts_2 hl C hret ht  _ (lt_X8_puts_2 hl C hret ht  n) v1 v2 s0
def f_X8_puts (a1 : Int32) (s0 : qS) : Option qO :=
  l_X8_puts_2  qFU a1 (0 : Int32) s0
set_option maxRecDepth 100000 in
set_option maxHeartbeats 4000000 in
theorem t_X8_puts {g : qG} {l : Launch} (hl : l.stackTraces = false) (a1 : Int32) (s0 : qS) : qM g l 5 0 0 (.code yX8_puts cX8_puts 3 none) yX8_puts [qR 26 0, qI a1] s0 (f_X8_puts a1 s0) := by
  refine qM_of (by decide +kernel) hl (List.forall_mem_cons.mpr ⟨rfl, (List.forall_mem_cons.mpr ⟨rfl, (fun _ h => absurd h List.not_mem_nil)⟩)⟩) (Nat.le_of_ble_eq_true rfl) ?_
  intro p e s m args below meth c C hret ht
  show qV p l e _ s m args below meth c g _ _ _ _ _ 0 [some (qR 26 0), some (qI a1), none] [] s0
  exact (qv_iconst C (v := (0 : Int32)) dX8_puts_0 (by decide) (qv_istore_n C dX8_puts_1 (by decide) rfl (qV.weak [true, true, true] (lt_X8_puts_2 hl C hret ht  qFU a1 (0 : Int32) s0))))
