/-! the law, d -/
def b_L_isLine_17 (k3 : Nat) (j3 : Nat) (rk17 : Int32 → Int32 → qS → Option qO) (v3 : Int32) (v4 : Int32) (s0 : qS) : Option qO :=
  qbind (f_J0_length_8abf5 k3 j3 s0) (qvI (fun r2 s2 =>
  (if r2 ≤ v4 then (if qbo v3 then some (.inl (some (qI v3)), s2) else none) else
  (if v3 = 0 then (if qbo v3 then some (.inl (some (qI v3)), s2) else none) else
  qbind (f_X7_outputAtZ v4 s2) (qvI (fun r3 s3 =>
  qbind (f_J0_charAt_5068e k3 j3 v4 s3) (qvI (fun r4 s4 =>
  (if r3 = r4 then rk17 (1 : Int32) (v4 + (1 : Int32)) s4 else
  rk17 (0 : Int32) (v4 + (1 : Int32)) s4))) qE0)) qE0)))) qE0
def l_L_isLine_17 (k3 : Nat) (j3 : Nat) : Nat → Int32 → Int32 → qS → Option qO
  | 0, _, _, _ => none
  | n + 1, v3, v4, s0 => b_L_isLine_17 k3 j3 (l_L_isLine_17 k3 j3 n) v3 v4 s0
set_option maxRecDepth 100000 in
set_option maxHeartbeats 4000000 in
theorem bt_L_isLine_17 {p : Program} {l : Launch} {e : Env} {s : State} {m : MethodId} {args : Array Value} {below : List Frame} {meth : Method} {c : Code} {g : qG} (hl : l.stackTraces = false) (C : qC p l s m meth c cL_isLine 5 RL g) (hret : meth.sig.returnType = (some .boolean)) (ht : ∀ x ∈ c.exceptionTable.toList, False) (k3 : Nat) (j3 : Nat) (rk17 : Int32 → Int32 → qS → Option qO) (hrk17 : ∀ (v3 : Int32) (v4 : Int32) (s0 : qS), qV p l e (qrm 5 0 0) s m args below meth c g 5 (qQf g below args s (qrm 5 0 0)) (rk17 v3 v4 s0) 0 0 17 [some (qR 0 0), none, some (qR k3 j3), some (qI v3), some (qI v4)] [] s0) (T3 : qSt g k3 j3) (v3 : Int32) (v4 : Int32) (s0 : qS) : qV p l e (qrm 5 0 0) s m args below meth c g 5 (qQf g below args s (qrm 5 0 0)) (b_L_isLine_17 k3 j3 rk17 v3 v4 s0) 0 0 17 [some (qR 0 0), none, some (qR k3 j3), some (qI v3), some (qI v4)] [] s0 :=
  (qv_iload C dL_isLine_17 rfl (qv_aload_n C dL_isLine_19 rfl (qv_callT C (rest := [qI v4]) (cb := 0) (sb := 0) (t_J0_length_8abf5 hl T3 s0) mw_J0_length_8abf5 lk_L_266 in_J0_length_8abf5 se_J0_length_8abf5 T3 rfl (Nat.le_of_ble_eq_true rfl) (by decide) dL_isLine_20 rfl (qkI (fun r2 s2 => (qv_icmp_ge C (tgt := 57) dL_isLine_23 (by decide) (fun _ => (qv_iload_n C dL_isLine_57 rfl (qv_bret C hret dL_isLine_58)))
  (fun _ => (qv_iload_n C dL_isLine_26 rfl (qv_if_eq C (tgt := 57) dL_isLine_27 (by decide) (fun _ => (qv_iload_n C dL_isLine_57 rfl (qv_bret C hret dL_isLine_58)))
  (fun _ => (qv_aload_n C dL_isLine_30 rfl (qv_iload C dL_isLine_31 rfl (qv_callV C (rest := []) (cb := 0) (sb := 0) (t_X7_outputAtZ hl v4 s2) mw_X7_outputAt lk_L_271 in_X7_outputAt se_X7_outputAt rfl (by decide) (by decide) rfl rfl (Nat.le_of_ble_eq_true rfl) (by decide) dL_isLine_33 rfl (qkI (fun r3 s3 => (qv_aload_n C dL_isLine_36 rfl (qv_iload C dL_isLine_37 rfl (qv_callT C (rest := [qI r3]) (cb := 0) (sb := 0) (t_J0_charAt_5068e hl v4 T3 s3) mw_J0_charAt_5068e lk_L_275 in_J0_charAt_5068e se_J0_charAt_5068e T3 rfl (Nat.le_of_ble_eq_true rfl) (by decide) dL_isLine_39 rfl (qkI (fun r4 s4 => (qv_icmp_ne C (tgt := 49) dL_isLine_42 (by decide) (fun _ => (qv_iconst C (v := (1 : Int32)) dL_isLine_45 (by decide) (qv_goto C (tgt := 50) dL_isLine_46 (by decide) (qv_istore_n C dL_isLine_50 (by decide) rfl (qv_iinc C (v := (v4 + (1 : Int32))) dL_isLine_51 rfl rfl (by decide) rfl (qv_goto C (tgt := 17) dL_isLine_54 (by decide) (qV.weak [true, false, true, true, true] (hrk17 (1 : Int32) (v4 + (1 : Int32))  s4))))))))
  (fun _ => (qv_iconst C (v := (0 : Int32)) dL_isLine_49 (by decide) (qv_istore_n C dL_isLine_50 (by decide) rfl (qv_iinc C (v := (v4 + (1 : Int32))) dL_isLine_51 rfl rfl (by decide) rfl (qv_goto C (tgt := 17) dL_isLine_54 (by decide) (qV.weak [true, false, true, true, true] (hrk17 (0 : Int32) (v4 + (1 : Int32))  s4))))))))))))))))))))))))))))
theorem lt_L_isLine_17 {p : Program} {l : Launch} {e : Env} {s : State} {m : MethodId} {args : Array Value} {below : List Frame} {meth : Method} {c : Code} {g : qG} (hl : l.stackTraces = false) (C : qC p l s m meth c cL_isLine 5 RL g) (hret : meth.sig.returnType = (some .boolean)) (ht : ∀ x ∈ c.exceptionTable.toList, False) (k3 : Nat) (j3 : Nat) : ∀ (n : Nat) (T3 : qSt g k3 j3) (v3 : Int32) (v4 : Int32) (s0 : qS), qV p l e (qrm 5 0 0) s m args below meth c g 5 (qQf g below args s (qrm 5 0 0)) (l_L_isLine_17 k3 j3 n v3 v4 s0) 0 0 17 [some (qR 0 0), none, some (qR k3 j3), some (qI v3), some (qI v4)] [] s0
  | 0, _, _, _, _ => qV.no
  | n + 1, T3, v3, v4, s0 => bt_L_isLine_17 hl C hret ht k3 j3 _ (fun v3 v4 s0 => (lt_L_isLine_17 hl C hret ht k3 j3 n T3 v3 v4  s0)) T3 v3 v4  s0
def f_L_isLine (a2 : Int32) (k3 : Nat) (j3 : Nat) (s0 : qS) : Option qO :=
  qbind (f_J0_length_8abf5 k3 j3 s0) (qvI (fun r1 s1 =>
  (if a2 = r1 then l_L_isLine_17 k3 j3 qFU (1 : Int32) (0 : Int32) s1 else
  l_L_isLine_17 k3 j3 qFU (0 : Int32) (0 : Int32) s1))) qE0
set_option maxRecDepth 100000 in
set_option maxHeartbeats 4000000 in
theorem t_L_isLine {g : qG} {l : Launch} (hl : l.stackTraces = false) {k3 : Nat} {j3 : Nat} (a2 : Int32) (T3 : qSt g k3 j3) (s0 : qS) : qM g l 5 0 0 (.code yL_isLine cL_isLine 5 (some .boolean)) yL_isLine [qR 0 0, qI a2, qR k3 j3] s0 (f_L_isLine a2 k3 j3 s0) := by
  refine qM_of (by decide +kernel) hl (List.forall_mem_cons.mpr ⟨rfl, (List.forall_mem_cons.mpr ⟨rfl, (List.forall_mem_cons.mpr ⟨rfl, (fun _ h => absurd h List.not_mem_nil)⟩)⟩)⟩) (Nat.le_of_ble_eq_true rfl) ?_
  intro p e s m args below meth c C hret ht
  show qV p l e _ s m args below meth c g _ _ _ _ _ 0 [some (qR 0 0), some (qI a2), some (qR k3 j3), none, none] [] s0
  exact (qv_iload_n C dL_isLine_0 rfl (qv_aload_n C dL_isLine_1 rfl (qv_callT C (rest := [qI a2]) (cb := 0) (sb := 0) (t_J0_length_8abf5 hl T3 s0) mw_J0_length_8abf5 lk_L_266 in_J0_length_8abf5 se_J0_length_8abf5 T3 rfl (Nat.le_of_ble_eq_true rfl) (by decide) dL_isLine_2 rfl (qkI (fun r1 s1 => (qv_icmp_ne C (tgt := 12) dL_isLine_5 (by decide) (fun _ => (qv_iconst C (v := (1 : Int32)) dL_isLine_8 (by decide) (qv_goto C (tgt := 13) dL_isLine_9 (by decide) (qv_istore_n C dL_isLine_13 (by decide) rfl (qv_iconst C (v := (0 : Int32)) dL_isLine_14 (by decide) (qv_istore C dL_isLine_15 (by decide) rfl (qV.weak [true, false, true, true, true] (lt_L_isLine_17 hl C hret ht k3 j3 qFU T3 (1 : Int32) (0 : Int32)  s1))))))))
  (fun _ => (qv_iconst C (v := (0 : Int32)) dL_isLine_12 (by decide) (qv_istore_n C dL_isLine_13 (by decide) rfl (qv_iconst C (v := (0 : Int32)) dL_isLine_14 (by decide) (qv_istore C dL_isLine_15 (by decide) rfl (qV.weak [true, false, true, true, true] (lt_L_isLine_17 hl C hret ht k3 j3 qFU T3 (0 : Int32) (0 : Int32)  s1)))))))))))))
