/-! the class: helps that stand alone (printed by wip/whole/gen) -/
def f_X7_isWithin (a1 : Int32) (a2 : Int32) (a3 : Int32) (s0 : qS) : Option qO :=
  (if a1 < a2 then (some (.inl (some (qI (0 : Int32))), s0)) else
  (if a3 < a1 then (some (.inl (some (qI (0 : Int32))), s0)) else
  (some (.inl (some (qI (1 : Int32))), s0))))
set_option maxRecDepth 100000 in
set_option maxHeartbeats 4000000 in
theorem t_X7_isWithin {g : qG} {l : Launch} (hl : l.stackTraces = false) (a1 : Int32) (a2 : Int32) (a3 : Int32) (s0 : qS) : qM g l 1 0 0 (.code yX7_isWithin cX7_isWithin 3 (some .boolean)) yX7_isWithin [qI a1, qI a2, qI a3] s0 (f_X7_isWithin a1 a2 a3 s0) := by
  refine qM_of (by decide +kernel) hl (List.forall_mem_cons.mpr ⟨rfl, (List.forall_mem_cons.mpr ⟨rfl, (List.forall_mem_cons.mpr ⟨rfl, (fun _ h => absurd h List.not_mem_nil)⟩)⟩)⟩) (Nat.le_of_ble_eq_true rfl) ?_
  intro p e s m args below meth c C hret ht
  show qV p l e _ s m args below meth c g _ _ _ _ _ 0 [some (qI a1), some (qI a2), some (qI a3)] [] s0
  exact (qv_iload_n C dX7_isWithin_0 rfl (qv_iload_n C dX7_isWithin_1 rfl (qv_icmp_lt C (tgt := 14) dX7_isWithin_2 (by decide) (fun _ => (qv_iconst C (v := (0 : Int32)) dX7_isWithin_14 (by decide) (qv_zret! C hret (qbo_nar (by decide)) dX7_isWithin_15)))
  (fun _ => (qv_iload_n C dX7_isWithin_5 rfl (qv_iload_n C dX7_isWithin_6 rfl (qv_icmp_gt C (tgt := 14) dX7_isWithin_7 (by decide) (fun _ => (qv_iconst C (v := (0 : Int32)) dX7_isWithin_14 (by decide) (qv_zret! C hret (qbo_nar (by decide)) dX7_isWithin_15)))
  (fun _ => (qv_iconst C (v := (1 : Int32)) dX7_isWithin_10 (by decide) (qv_goto C (tgt := 15) dX7_isWithin_11 (by decide) (qv_zret! C hret (qbo_nar (by decide)) dX7_isWithin_15)))))))))))
def f_X7_hasBit (a1 : Int32) (a2 : Int32) (s0 : qS) : Option qO :=
  (if ((a1 >>> (a2 &&& 31)) &&& (1 : Int32)) = (1 : Int32) then (some (.inl (some (qI (1 : Int32))), s0)) else
  (some (.inl (some (qI (0 : Int32))), s0)))
set_option maxRecDepth 100000 in
set_option maxHeartbeats 4000000 in
theorem t_X7_hasBit {g : qG} {l : Launch} (hl : l.stackTraces = false) (a1 : Int32) (a2 : Int32) (s0 : qS) : qM g l 1 0 0 (.code yX7_hasBit cX7_hasBit 2 (some .boolean)) yX7_hasBit [qI a1, qI a2] s0 (f_X7_hasBit a1 a2 s0) := by
  refine qM_of (by decide +kernel) hl (List.forall_mem_cons.mpr ⟨rfl, (List.forall_mem_cons.mpr ⟨rfl, (fun _ h => absurd h List.not_mem_nil)⟩)⟩) (Nat.le_of_ble_eq_true rfl) ?_
  intro p e s m args below meth c C hret ht
  show qV p l e _ s m args below meth c g _ _ _ _ _ 0 [some (qI a1), some (qI a2)] [] s0
  exact (qv_iload_n C dX7_hasBit_0 rfl (qv_iload_n C dX7_hasBit_1 rfl (qv_ishr C dX7_hasBit_2 (qv_iconst C (v := (1 : Int32)) dX7_hasBit_3 (by decide) (qv_iand C dX7_hasBit_4 (qv_iconst C (v := (1 : Int32)) dX7_hasBit_5 (by decide) (qv_icmp_ne C (tgt := 13) dX7_hasBit_6 (by decide) (fun _ => (qv_iconst C (v := (1 : Int32)) dX7_hasBit_9 (by decide) (qv_goto C (tgt := 14) dX7_hasBit_10 (by decide) (qv_zret! C hret (qbo_nar (by decide)) dX7_hasBit_14))))
  (fun _ => (qv_iconst C (v := (0 : Int32)) dX7_hasBit_13 (by decide) (qv_zret! C hret (qbo_nar (by decide)) dX7_hasBit_14))))))))))
def f_X7_at (k1 j1 : Nat) (a2 : Int32) (s0 : qS) : Option qO :=
  (if a2 < 0 then (some (.inl (some (qI (0 : Int32))), s0)) else
  (if (Int32.ofNat (qlen k1)) ≤ a2 then (some (.inl (some (qI (0 : Int32))), s0)) else
  (if qin a2 (qlen k1) then (some (.inl (some (qI (s0 k1 j1 (a2).toNatClampNeg))), s0)) else none)))
set_option maxRecDepth 100000 in
set_option maxHeartbeats 4000000 in
theorem t_X7_at {g : qG} {l : Launch} (hl : l.stackTraces = false) {k1 j1 : Nat} (hs1 : qsh k1 = 1) (hk1 : k1 < 26) (hj1 : j1 < qn k1) (a2 : Int32) (s0 : qS) : qM g l 1 0 0 (.code yX7_at cX7_at 2 (some .int)) yX7_at [qR k1 j1, qI a2] s0 (f_X7_at k1 j1 a2 s0) := by
  refine qM_of (by decide +kernel) hl (List.forall_mem_cons.mpr ⟨rfl, (List.forall_mem_cons.mpr ⟨rfl, (fun _ h => absurd h List.not_mem_nil)⟩)⟩) (Nat.le_of_ble_eq_true rfl) ?_
  intro p e s m args below meth c C hret ht
  show qV p l e _ s m args below meth c g _ _ _ _ _ 0 [some (qR k1 j1), some (qI a2)] [] s0
  exact (qv_iload_n C dX7_at_0 rfl (qv_if_lt C (tgt := 16) dX7_at_1 (by decide) (fun _ => (qv_iconst C (v := (0 : Int32)) dX7_at_16 (by decide) (qv_iret C hret dX7_at_17)))
  (fun _ => (qv_iload_n C dX7_at_4 rfl (qv_aload_n C dX7_at_5 rfl (qv_alen C (Or.inl hs1) rfl hk1 hj1 dX7_at_6 (qv_icmp_ge C (tgt := 16) dX7_at_7 (by decide) (fun _ => (qv_iconst C (v := (0 : Int32)) dX7_at_16 (by decide) (qv_iret C hret dX7_at_17)))
  (fun _ => (qv_aload_n C dX7_at_10 rfl (qv_iload_n C dX7_at_11 rfl (qv_iald C rfl hs1 hk1 hj1 dX7_at_12 (fun _ => (qv_goto C (tgt := 17) dX7_at_13 (by decide) (qv_iret C hret dX7_at_17))))))))))))))
def f_X7_put (k1 j1 : Nat) (a2 : Int32) (a3 : Int32) (s0 : qS) : Option qO :=
  (if a2 < 0 then (some (.inl none, s0)) else
  (if (Int32.ofNat (qlen k1)) ≤ a2 then (some (.inl none, s0)) else
  (if qin a2 (qlen k1) then qlet (qu s0 k1 j1 (a2).toNatClampNeg a3) (fun s1 =>
  (some (.inl none, s1))) else none)))
set_option maxRecDepth 100000 in
set_option maxHeartbeats 4000000 in
theorem t_X7_put {g : qG} {l : Launch} (hl : l.stackTraces = false) {k1 j1 : Nat} (hs1 : qsh k1 = 1) (hk1 : k1 < 26) (hj1 : j1 < qn k1) (a2 : Int32) (a3 : Int32) (s0 : qS) : qM g l 1 0 0 (.code yX7_put cX7_put 3 none) yX7_put [qR k1 j1, qI a2, qI a3] s0 (f_X7_put k1 j1 a2 a3 s0) := by
  refine qM_of (by decide +kernel) hl (List.forall_mem_cons.mpr ⟨rfl, (List.forall_mem_cons.mpr ⟨rfl, (List.forall_mem_cons.mpr ⟨rfl, (fun _ h => absurd h List.not_mem_nil)⟩)⟩)⟩) (Nat.le_of_ble_eq_true rfl) ?_
  intro p e s m args below meth c C hret ht
  show qV p l e _ s m args below meth c g _ _ _ _ _ 0 [some (qR k1 j1), some (qI a2), some (qI a3)] [] s0
  exact (qv_iload_n C dX7_put_0 rfl (qv_if_lt C (tgt := 14) dX7_put_1 (by decide) (fun _ => (qv_vret C hret dX7_put_14))
  (fun _ => (qv_iload_n C dX7_put_4 rfl (qv_aload_n C dX7_put_5 rfl (qv_alen C (Or.inl hs1) rfl hk1 hj1 dX7_put_6 (qv_icmp_ge C (tgt := 14) dX7_put_7 (by decide) (fun _ => (qv_vret C hret dX7_put_14))
  (fun _ => (qv_aload_n C dX7_put_10 rfl (qv_iload_n C dX7_put_11 rfl (qv_iload_n C dX7_put_12 rfl (qv_iast C rfl hs1 hk1 hj1 dX7_put_13 (fun _ => (qv_let (fun s1 => (qv_vret C hret dX7_put_14))))))))))))))))
def f_X7_charAt (k1 j1 : Nat) (a2 : Int32) (s0 : qS) : Option qO :=
  (if a2 < 0 then (some (.inl (some (qI (32 : Int32))), s0)) else
  (if (Int32.ofNat (qlen k1)) ≤ a2 then (some (.inl (some (qI (32 : Int32))), s0)) else
  (if qin a2 (qlen k1) then (if qch (s0 k1 j1 (a2).toNatClampNeg) then some (.inl (some (qI (s0 k1 j1 (a2).toNatClampNeg))), s0) else none) else none)))
set_option maxRecDepth 100000 in
set_option maxHeartbeats 4000000 in
theorem t_X7_charAt {g : qG} {l : Launch} (hl : l.stackTraces = false) {k1 j1 : Nat} (hs1 : qsh k1 = 2) (hk1 : k1 < 26) (hj1 : j1 < qn k1) (a2 : Int32) (s0 : qS) : qM g l 1 0 0 (.code yX7_charAt cX7_charAt 2 (some .char)) yX7_charAt [qR k1 j1, qI a2] s0 (f_X7_charAt k1 j1 a2 s0) := by
  refine qM_of (by decide +kernel) hl (List.forall_mem_cons.mpr ⟨rfl, (List.forall_mem_cons.mpr ⟨rfl, (fun _ h => absurd h List.not_mem_nil)⟩)⟩) (Nat.le_of_ble_eq_true rfl) ?_
  intro p e s m args below meth c C hret ht
  show qV p l e _ s m args below meth c g _ _ _ _ _ 0 [some (qR k1 j1), some (qI a2)] [] s0
  exact (qv_iload_n C dX7_charAt_0 rfl (qv_if_lt C (tgt := 16) dX7_charAt_1 (by decide) (fun _ => (qv_bipush C (v := (32 : Int32)) dX7_charAt_16 (by decide) (qv_zret! C hret (qch_nar (by decide)) dX7_charAt_18)))
  (fun _ => (qv_iload_n C dX7_charAt_4 rfl (qv_aload_n C dX7_charAt_5 rfl (qv_alen C (Or.inr (Or.inl hs1)) rfl hk1 hj1 dX7_charAt_6 (qv_icmp_ge C (tgt := 16) dX7_charAt_7 (by decide) (fun _ => (qv_bipush C (v := (32 : Int32)) dX7_charAt_16 (by decide) (qv_zret! C hret (qch_nar (by decide)) dX7_charAt_18)))
  (fun _ => (qv_aload_n C dX7_charAt_10 rfl (qv_iload_n C dX7_charAt_11 rfl (qv_cald C rfl hs1 hk1 hj1 dX7_charAt_12 (fun _ => (qv_goto C (tgt := 18) dX7_charAt_13 (by decide) (qv_cret C hret dX7_charAt_18))))))))))))))
def b_X7_copyRow_2 (k1 : Nat) (j1 : Nat) (k2 : Nat) (j2 : Nat) (rk2 : Int32 → qS → Option qO) (v2 : Int32) (s0 : qS) : Option qO :=
  (if (Int32.ofNat (qlen k1)) ≤ v2 then (some (.inl none, s0)) else
  (if (Int32.ofNat (qlen k2)) ≤ v2 then (some (.inl none, s0)) else
  (if qin v2 (qlen k1) then (if qin v2 (qlen k2) then qlet (qu s0 k2 j2 (v2).toNatClampNeg (s0 k1 j1 (v2).toNatClampNeg)) (fun s1 =>
  rk2 (v2 + (1 : Int32)) s1) else none) else none)))
def l_X7_copyRow_2 (k1 : Nat) (j1 : Nat) (k2 : Nat) (j2 : Nat) : Nat → Int32 → qS → Option qO
  | 0, _, _ => none
  | n + 1, v2, s0 => b_X7_copyRow_2 k1 j1 k2 j2 (l_X7_copyRow_2 k1 j1 k2 j2 n) v2 s0
set_option maxRecDepth 100000 in
set_option maxHeartbeats 4000000 in
theorem bt_X7_copyRow_2 {p : Program} {l : Launch} {e : Env} {s : State} {m : MethodId} {args : Array Value} {below : List Frame} {meth : Method} {c : Code} {g : qG} (hl : l.stackTraces = false) (C : qC p l s m meth c cX7_copyRow 3 RX7 g) (hret : meth.sig.returnType = none) (ht : ∀ x ∈ c.exceptionTable.toList, False) {k1 j1 : Nat} (hs1 : qsh k1 = 1) (hk1 : k1 < 26) (hj1 : j1 < qn k1) {k2 j2 : Nat} (hs2 : qsh k2 = 1) (hk2 : k2 < 26) (hj2 : j2 < qn k2) (rk2 : Int32 → qS → Option qO) (hrk2 : ∀ (v2 : Int32) (s0 : qS), qV p l e (qrm 1 0 0) s m args below meth c g 3 (qQf g below args s (qrm 1 0 0)) (rk2 v2 s0) 0 0 2 [some (qR k1 j1), some (qR k2 j2), some (qI v2)] [] s0) (v2 : Int32) (s0 : qS) : qV p l e (qrm 1 0 0) s m args below meth c g 3 (qQf g below args s (qrm 1 0 0)) (b_X7_copyRow_2 k1 j1 k2 j2 rk2 v2 s0) 0 0 2 [some (qR k1 j1), some (qR k2 j2), some (qI v2)] [] s0 :=
  (qv_iload_n C dX7_copyRow_2 rfl (qv_aload_n C dX7_copyRow_3 rfl (qv_alen C (Or.inl hs1) rfl hk1 hj1 dX7_copyRow_4 (qv_icmp_ge C (tgt := 26) dX7_copyRow_5 (by decide) (fun _ => (qv_vret C hret dX7_copyRow_26))
  (fun _ => (qv_iload_n C dX7_copyRow_8 rfl (qv_aload_n C dX7_copyRow_9 rfl (qv_alen C (Or.inl hs2) rfl hk2 hj2 dX7_copyRow_10 (qv_icmp_ge C (tgt := 26) dX7_copyRow_11 (by decide) (fun _ => (qv_vret C hret dX7_copyRow_26))
  (fun _ => (qv_aload_n C dX7_copyRow_14 rfl (qv_iload_n C dX7_copyRow_15 rfl (qv_aload_n C dX7_copyRow_16 rfl (qv_iload_n C dX7_copyRow_17 rfl (qv_iald C rfl hs1 hk1 hj1 dX7_copyRow_18 (fun _ => (qv_iast C rfl hs2 hk2 hj2 dX7_copyRow_19 (fun _ => (qv_let (fun s1 => (qv_iinc C (v := (v2 + (1 : Int32))) dX7_copyRow_20 rfl rfl (by decide) rfl (qv_goto C (tgt := 2) dX7_copyRow_23 (by decide) (qV.weak [true, true, true] (hrk2 (v2 + (1 : Int32)) s1))))))))))))))))))))))))
theorem lt_X7_copyRow_2 {p : Program} {l : Launch} {e : Env} {s : State} {m : MethodId} {args : Array Value} {below : List Frame} {meth : Method} {c : Code} {g : qG} (hl : l.stackTraces = false) (C : qC p l s m meth c cX7_copyRow 3 RX7 g) (hret : meth.sig.returnType = none) (ht : ∀ x ∈ c.exceptionTable.toList, False) {k1 j1 : Nat} (hs1 : qsh k1 = 1) (hk1 : k1 < 26) (hj1 : j1 < qn k1) {k2 j2 : Nat} (hs2 : qsh k2 = 1) (hk2 : k2 < 26) (hj2 : j2 < qn k2) : ∀ (n : Nat) (v2 : Int32) (s0 : qS), qV p l e (qrm 1 0 0) s m args below meth c g 3 (qQf g below args s (qrm 1 0 0)) (l_X7_copyRow_2 k1 j1 k2 j2 n v2 s0) 0 0 2 [some (qR k1 j1), some (qR k2 j2), some (qI v2)] [] s0
  | 0, _, _ => qV.no
  | n + 1, v2, s0 => bt_X7_copyRow_2 hl C hret ht hs1 hk1 hj1 hs2 hk2 hj2 _ (lt_X7_copyRow_2 hl C hret ht hs1 hk1 hj1 hs2 hk2 hj2 n) v2 s0
def f_X7_copyRow (k1 j1 : Nat) (k2 j2 : Nat) (s0 : qS) : Option qO :=
  l_X7_copyRow_2 k1 j1 k2 j2 qFU (0 : Int32) s0
set_option maxRecDepth 100000 in
set_option maxHeartbeats 4000000 in
theorem t_X7_copyRow {g : qG} {l : Launch} (hl : l.stackTraces = false) {k1 j1 : Nat} (hs1 : qsh k1 = 1) (hk1 : k1 < 26) (hj1 : j1 < qn k1) {k2 j2 : Nat} (hs2 : qsh k2 = 1) (hk2 : k2 < 26) (hj2 : j2 < qn k2) (s0 : qS) : qM g l 1 0 0 (.code yX7_copyRow cX7_copyRow 3 none) yX7_copyRow [qR k1 j1, qR k2 j2] s0 (f_X7_copyRow k1 j1 k2 j2 s0) := by
  refine qM_of (by decide +kernel) hl (List.forall_mem_cons.mpr ⟨rfl, (List.forall_mem_cons.mpr ⟨rfl, (fun _ h => absurd h List.not_mem_nil)⟩)⟩) (Nat.le_of_ble_eq_true rfl) ?_
  intro p e s m args below meth c C hret ht
  show qV p l e _ s m args below meth c g _ _ _ _ _ 0 [some (qR k1 j1), some (qR k2 j2), none] [] s0
  exact (qv_iconst C (v := (0 : Int32)) dX7_copyRow_0 (by decide) (qv_istore_n C dX7_copyRow_1 (by decide) rfl (qV.weak [true, true, true] (lt_X7_copyRow_2 hl C hret ht hs1 hk1 hj1 hs2 hk2 hj2 qFU (0 : Int32) s0))))
def b_X7_fillRow_2 (k1 : Nat) (j1 : Nat) (rk2 : Int32 → Int32 → qS → Option qO) (v1 : Int32) (v2 : Int32) (s0 : qS) : Option qO :=
  (if (Int32.ofNat (qlen k1)) ≤ v2 then (some (.inl none, s0)) else
  (if qin v2 (qlen k1) then qlet (qu s0 k1 j1 (v2).toNatClampNeg v1) (fun s1 =>
  rk2 v1 (v2 + (1 : Int32)) s1) else none))
def l_X7_fillRow_2 (k1 : Nat) (j1 : Nat) : Nat → Int32 → Int32 → qS → Option qO
  | 0, _, _, _ => none
  | n + 1, v1, v2, s0 => b_X7_fillRow_2 k1 j1 (l_X7_fillRow_2 k1 j1 n) v1 v2 s0
set_option maxRecDepth 100000 in
set_option maxHeartbeats 4000000 in
theorem bt_X7_fillRow_2 {p : Program} {l : Launch} {e : Env} {s : State} {m : MethodId} {args : Array Value} {below : List Frame} {meth : Method} {c : Code} {g : qG} (hl : l.stackTraces = false) (C : qC p l s m meth c cX7_fillRow 3 RX7 g) (hret : meth.sig.returnType = none) (ht : ∀ x ∈ c.exceptionTable.toList, False) {k1 j1 : Nat} (hs1 : qsh k1 = 1) (hk1 : k1 < 26) (hj1 : j1 < qn k1) (rk2 : Int32 → Int32 → qS → Option qO) (hrk2 : ∀ (v1 : Int32) (v2 : Int32) (s0 : qS), qV p l e (qrm 1 0 0) s m args below meth c g 3 (qQf g below args s (qrm 1 0 0)) (rk2 v1 v2 s0) 0 0 2 [some (qR k1 j1), some (qI v1), some (qI v2)] [] s0) (v1 : Int32) (v2 : Int32) (s0 : qS) : qV p l e (qrm 1 0 0) s m args below meth c g 3 (qQf g below args s (qrm 1 0 0)) (b_X7_fillRow_2 k1 j1 rk2 v1 v2 s0) 0 0 2 [some (qR k1 j1), some (qI v1), some (qI v2)] [] s0 :=
  (qv_iload_n C dX7_fillRow_2 rfl (qv_aload_n C dX7_fillRow_3 rfl (qv_alen C (Or.inl hs1) rfl hk1 hj1 dX7_fillRow_4 (qv_icmp_ge C (tgt := 18) dX7_fillRow_5 (by decide) (fun _ => (qv_vret C hret dX7_fillRow_18))
  (fun _ => (qv_aload_n C dX7_fillRow_8 rfl (qv_iload_n C dX7_fillRow_9 rfl (qv_iload_n C dX7_fillRow_10 rfl (qv_iast C rfl hs1 hk1 hj1 dX7_fillRow_11 (fun _ => (qv_let (fun s1 => (qv_iinc C (v := (v2 + (1 : Int32))) dX7_fillRow_12 rfl rfl (by decide) rfl (qv_goto C (tgt := 2) dX7_fillRow_15 (by decide) (qV.weak [true, true, true] (hrk2 v1 (v2 + (1 : Int32)) s1))))))))))))))))
theorem lt_X7_fillRow_2 {p : Program} {l : Launch} {e : Env} {s : State} {m : MethodId} {args : Array Value} {below : List Frame} {meth : Method} {c : Code} {g : qG} (hl : l.stackTraces = false) (C : qC p l s m meth c cX7_fillRow 3 RX7 g) (hret : meth.sig.returnType = none) (ht : ∀ x ∈ c.exceptionTable.toList, False) {k1 j1 : Nat} (hs1 : qsh k1 = 1) (hk1 : k1 < 26) (hj1 : j1 < qn k1) : ∀ (n : Nat) (v1 : Int32) (v2 : Int32) (s0 : qS), qV p l e (qrm 1 0 0) s m args below meth c g 3 (qQf g below args s (qrm 1 0 0)) (l_X7_fillRow_2 k1 j1 n v1 v2 s0) 0 0 2 [some (qR k1 j1), some (qI v1), some (qI v2)] [] s0
  | 0, _, _, _ => qV.no
  | n + 1, v1, v2, s0 => bt_X7_fillRow_2 hl C hret ht hs1 hk1 hj1 _ (lt_X7_fillRow_2 hl C hret ht hs1 hk1 hj1 n) v1 v2 s0
def f_X7_fillRow (k1 j1 : Nat) (a2 : Int32) (s0 : qS) : Option qO :=
  l_X7_fillRow_2 k1 j1 qFU a2 (0 : Int32) s0
set_option maxRecDepth 100000 in
set_option maxHeartbeats 4000000 in
theorem t_X7_fillRow {g : qG} {l : Launch} (hl : l.stackTraces = false) {k1 j1 : Nat} (hs1 : qsh k1 = 1) (hk1 : k1 < 26) (hj1 : j1 < qn k1) (a2 : Int32) (s0 : qS) : qM g l 1 0 0 (.code yX7_fillRow cX7_fillRow 3 none) yX7_fillRow [qR k1 j1, qI a2] s0 (f_X7_fillRow k1 j1 a2 s0) := by
  refine qM_of (by decide +kernel) hl (List.forall_mem_cons.mpr ⟨rfl, (List.forall_mem_cons.mpr ⟨rfl, (fun _ h => absurd h List.not_mem_nil)⟩)⟩) (Nat.le_of_ble_eq_true rfl) ?_
  intro p e s m args below meth c C hret ht
  show qV p l e _ s m args below meth c g _ _ _ _ _ 0 [some (qR k1 j1), some (qI a2), none] [] s0
  exact (qv_iconst C (v := (0 : Int32)) dX7_fillRow_0 (by decide) (qv_istore_n C dX7_fillRow_1 (by decide) rfl (qV.weak [true, true, true] (lt_X7_fillRow_2 hl C hret ht hs1 hk1 hj1 qFU a2 (0 : Int32) s0))))
def b_X7_closeGap_6 (k1 : Nat) (j1 : Nat) (rk6 : Int32 → qS → Option qO) (v2 : Int32) (s0 : qS) : Option qO :=
  (if (Int32.ofNat (qlen k1)) ≤ (v2 + (1 : Int32)) then (some (.inl none, s0)) else
  (if qin (v2 + (1 : Int32)) (qlen k1) then (if qin v2 (qlen k1) then qlet (qu s0 k1 j1 (v2).toNatClampNeg (s0 k1 j1 ((v2 + (1 : Int32))).toNatClampNeg)) (fun s1 =>
  rk6 (v2 + (1 : Int32)) s1) else none) else none))
def l_X7_closeGap_6 (k1 : Nat) (j1 : Nat) : Nat → Int32 → qS → Option qO
  | 0, _, _ => none
  | n + 1, v2, s0 => b_X7_closeGap_6 k1 j1 (l_X7_closeGap_6 k1 j1 n) v2 s0
set_option maxRecDepth 100000 in
set_option maxHeartbeats 4000000 in
theorem bt_X7_closeGap_6 {p : Program} {l : Launch} {e : Env} {s : State} {m : MethodId} {args : Array Value} {below : List Frame} {meth : Method} {c : Code} {g : qG} (hl : l.stackTraces = false) (C : qC p l s m meth c cX7_closeGap 3 RX7 g) (hret : meth.sig.returnType = none) (ht : ∀ x ∈ c.exceptionTable.toList, False) {k1 j1 : Nat} (hs1 : qsh k1 = 1) (hk1 : k1 < 26) (hj1 : j1 < qn k1) (rk6 : Int32 → qS → Option qO) (hrk6 : ∀ (v2 : Int32) (s0 : qS), qV p l e (qrm 1 0 0) s m args below meth c g 3 (qQf g below args s (qrm 1 0 0)) (rk6 v2 s0) 0 0 6 [some (qR k1 j1), none, some (qI v2)] [] s0) (v2 : Int32) (s0 : qS) : qV p l e (qrm 1 0 0) s m args below meth c g 3 (qQf g below args s (qrm 1 0 0)) (b_X7_closeGap_6 k1 j1 rk6 v2 s0) 0 0 6 [some (qR k1 j1), none, some (qI v2)] [] s0 :=
  (qv_iload_n C dX7_closeGap_6 rfl (qv_iconst C (v := (1 : Int32)) dX7_closeGap_7 (by decide) (qv_iadd C dX7_closeGap_8 (qv_aload_n C dX7_closeGap_9 rfl (qv_alen C (Or.inl hs1) rfl hk1 hj1 dX7_closeGap_10 (qv_icmp_ge C (tgt := 28) dX7_closeGap_11 (by decide) (fun _ => (qv_vret C hret dX7_closeGap_28))
  (fun _ => (qv_aload_n C dX7_closeGap_14 rfl (qv_iload_n C dX7_closeGap_15 rfl (qv_aload_n C dX7_closeGap_16 rfl (qv_iload_n C dX7_closeGap_17 rfl (qv_iconst C (v := (1 : Int32)) dX7_closeGap_18 (by decide) (qv_iadd C dX7_closeGap_19 (qv_iald C rfl hs1 hk1 hj1 dX7_closeGap_20 (fun _ => (qv_iast C rfl hs1 hk1 hj1 dX7_closeGap_21 (fun _ => (qv_let (fun s1 => (qv_iinc C (v := (v2 + (1 : Int32))) dX7_closeGap_22 rfl rfl (by decide) rfl (qv_goto C (tgt := 6) dX7_closeGap_25 (by decide) (qV.weak [true, false, true] (hrk6 (v2 + (1 : Int32)) s1)))))))))))))))))))))))
theorem lt_X7_closeGap_6 {p : Program} {l : Launch} {e : Env} {s : State} {m : MethodId} {args : Array Value} {below : List Frame} {meth : Method} {c : Code} {g : qG} (hl : l.stackTraces = false) (C : qC p l s m meth c cX7_closeGap 3 RX7 g) (hret : meth.sig.returnType = none) (ht : ∀ x ∈ c.exceptionTable.toList, False) {k1 j1 : Nat} (hs1 : qsh k1 = 1) (hk1 : k1 < 26) (hj1 : j1 < qn k1) : ∀ (n : Nat) (v2 : Int32) (s0 : qS), qV p l e (qrm 1 0 0) s m args below meth c g 3 (qQf g below args s (qrm 1 0 0)) (l_X7_closeGap_6 k1 j1 n v2 s0) 0 0 6 [some (qR k1 j1), none, some (qI v2)] [] s0
  | 0, _, _ => qV.no
  | n + 1, v2, s0 => bt_X7_closeGap_6 hl C hret ht hs1 hk1 hj1 _ (lt_X7_closeGap_6 hl C hret ht hs1 hk1 hj1 n) v2 s0
def f_X7_closeGap (k1 j1 : Nat) (a2 : Int32) (s0 : qS) : Option qO :=
  l_X7_closeGap_6 k1 j1 qFU (qmax a2 (0 : Int32)) s0
set_option maxRecDepth 100000 in
set_option maxHeartbeats 4000000 in
theorem t_X7_closeGap {g : qG} {l : Launch} (hl : l.stackTraces = false) {k1 j1 : Nat} (hs1 : qsh k1 = 1) (hk1 : k1 < 26) (hj1 : j1 < qn k1) (a2 : Int32) (s0 : qS) : qM g l 1 0 0 (.code yX7_closeGap cX7_closeGap 3 none) yX7_closeGap [qR k1 j1, qI a2] s0 (f_X7_closeGap k1 j1 a2 s0) := by
  refine qM_of (by decide +kernel) hl (List.forall_mem_cons.mpr ⟨rfl, (List.forall_mem_cons.mpr ⟨rfl, (fun _ h => absurd h List.not_mem_nil)⟩)⟩) (Nat.le_of_ble_eq_true rfl) ?_
  intro p e s m args below meth c C hret ht
  show qV p l e _ s m args below meth c g _ _ _ _ _ 0 [some (qR k1 j1), some (qI a2), none] [] s0
  exact (qv_iload_n C dX7_closeGap_0 rfl (qv_iconst C (v := (0 : Int32)) dX7_closeGap_1 (by decide) (qv_mmax C lk_X7_220 mm_max (Nat.le_of_ble_eq_true rfl) (by decide) dX7_closeGap_2 (qv_istore_n C dX7_closeGap_5 (by decide) rfl (qV.weak [true, false, true] (lt_X7_closeGap_6 hl C hret ht hs1 hk1 hj1 qFU (qmax a2 (0 : Int32)) s0))))))
def f_X7_sortingKey (a1 : Int32) (a2 : Int32) (s0 : qS) : Option qO :=
  (some (.inl (some (qI (((10 : Int32) * a1) - a2))), s0))
set_option maxRecDepth 100000 in
set_option maxHeartbeats 4000000 in
theorem t_X7_sortingKey {g : qG} {l : Launch} (hl : l.stackTraces = false) (a1 : Int32) (a2 : Int32) (s0 : qS) : qM g l 1 0 0 (.code yX7_sortingKey cX7_sortingKey 2 (some .int)) yX7_sortingKey [qI a1, qI a2] s0 (f_X7_sortingKey a1 a2 s0) := by
  refine qM_of (by decide +kernel) hl (List.forall_mem_cons.mpr ⟨rfl, (List.forall_mem_cons.mpr ⟨rfl, (fun _ h => absurd h List.not_mem_nil)⟩)⟩) (Nat.le_of_ble_eq_true rfl) ?_
  intro p e s m args below meth c C hret ht
  show qV p l e _ s m args below meth c g _ _ _ _ _ 0 [some (qI a1), some (qI a2)] [] s0
  exact (qv_bipush C (v := (10 : Int32)) dX7_sortingKey_0 (by decide) (qv_iload_n C dX7_sortingKey_2 rfl (qv_imul C dX7_sortingKey_3 (qv_iload_n C dX7_sortingKey_4 rfl (qv_isub C dX7_sortingKey_5 (qv_iret C hret dX7_sortingKey_6))))))
