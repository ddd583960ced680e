/-! the law, a -/
def j_L_cell_15 (LL : Nat) (xs : (Nat → Int32)) (v1 : Int32) (w0 : Int32) (w1 : Int32) (s0 : qS) : Option qO :=
  (some (.inl (some (qI (((((w0 * (w1 + ((1009 : Int32) * v1))) + (12345 : Int32)) ^^^ ((((w0 * (w1 + ((1009 : Int32) * v1))) + (12345 : Int32))).toUInt32 >>> (((13 : Int32)).toUInt32 &&& Int32.toUInt32 31)).toInt32) * (1103515245 : Int32)) ^^^ ((((((w0 * (w1 + ((1009 : Int32) * v1))) + (12345 : Int32)) ^^^ ((((w0 * (w1 + ((1009 : Int32) * v1))) + (12345 : Int32))).toUInt32 >>> (((13 : Int32)).toUInt32 &&& Int32.toUInt32 31)).toInt32) * (1103515245 : Int32))).toUInt32 >>> (((16 : Int32)).toUInt32 &&& Int32.toUInt32 31)).toInt32))), s0))
set_option maxRecDepth 100000 in
set_option maxHeartbeats 4000000 in
theorem jt_L_cell_15 {p : Program} {l : Launch} {e : Env} {s : State} {m : MethodId} {args : Array Value} {below : List Frame} {meth : Method} {c : Code} {g : qG} (hl : l.stackTraces = false) (C : qC p l s m meth c cL_cell 3 RL g) (hret : meth.sig.returnType = (some .int)) (ht : ∀ x ∈ c.exceptionTable.toList, False) (LL : Nat) (xs : (Nat → Int32)) (hX : qScr g LL xs) (v1 : Int32) (w0 : Int32) (w1 : Int32) (s0 : qS) : qV p l e (qrm 1 0 0) s m args below meth c g 3 (qQf g below args s (qrm 1 0 0)) (j_L_cell_15 LL xs v1 w0 w1 s0) 0 0 15 [none, some (qI v1), none] [qI w1, qI w0] s0 :=
  (qv_sipush C (v := (1009 : Int32)) dL_cell_15 (by decide) (qv_iload_n C dL_cell_18 rfl (qv_imul C dL_cell_19 (qv_iadd C dL_cell_20 (qv_imul C dL_cell_21 (qv_sipush C (v := (12345 : Int32)) dL_cell_22 (by decide) (qv_iadd C dL_cell_25 (qv_istore_n C dL_cell_26 (by decide) rfl (qv_iload_n C dL_cell_27 rfl (qv_iload_n C dL_cell_28 rfl (qv_bipush C (v := (13 : Int32)) dL_cell_29 (by decide) (qv_iushr C dL_cell_31 (qv_ixor C dL_cell_32 (qv_ldcI C kc_L_8 dL_cell_33 (qv_imul C dL_cell_35 (qv_istore_n C dL_cell_36 (by decide) rfl (qv_iload_n C dL_cell_37 rfl (qv_iload_n C dL_cell_38 rfl (qv_bipush C (v := (16 : Int32)) dL_cell_39 (by decide) (qv_iushr C dL_cell_41 (qv_ixor C dL_cell_42 (qv_iret C hret dL_cell_43))))))))))))))))))))))
def f_L_cell (LL : Nat) (xs : (Nat → Int32)) (a2 : Int32) (s0 : qS) : Option qO :=
  (if (Int32.ofNat LL) ≤ a2 then j_L_cell_15 LL xs a2 (69069 : Int32) (0 : Int32) s0 else
  (if qin a2 LL then j_L_cell_15 LL xs a2 (69069 : Int32) (xs (a2).toNatClampNeg) s0 else none))
set_option maxRecDepth 100000 in
set_option maxHeartbeats 4000000 in
theorem t_L_cell {g : qG} {l : Launch} (hl : l.stackTraces = false) {LL : Nat} {xs : Nat → Int32} (a2 : Int32) (hX : qScr g LL xs) (s0 : qS) : qM g l 1 0 0 (.code yL_cell cL_cell 3 (some .int)) yL_cell [qR 45 0, qI a2] s0 (f_L_cell LL xs a2 s0) := by
  refine qM_of (by decide +kernel) hl (List.forall_mem_cons.mpr ⟨rfl, (List.forall_mem_cons.mpr ⟨rfl, (fun _ h => absurd h List.not_mem_nil)⟩)⟩) (Nat.le_of_ble_eq_true rfl) ?_
  intro p e s m args below meth c C hret ht
  show qV p l e _ s m args below meth c g _ _ _ _ _ 0 [some (qR 45 0), some (qI a2), none] [] s0
  exact (qv_ldcI C kc_L_7 dL_cell_0 (qv_iload_n C dL_cell_2 rfl (qv_aload_n C dL_cell_3 rfl (qv_slenX C hX dL_cell_4 (qv_icmp_ge C (tgt := 14) dL_cell_5 (by decide) (fun _ => (qv_iconst C (v := (0 : Int32)) dL_cell_14 (by decide) (qV.weak [false, true, false] (jt_L_cell_15 hl C hret ht LL xs hX a2 (69069 : Int32) (0 : Int32)  s0))))
  (fun _ => (qv_aload_n C dL_cell_8 rfl (qv_iload_n C dL_cell_9 rfl (qv_sldX C hX dL_cell_10 (fun _ => (qv_goto C (tgt := 15) dL_cell_11 (by decide) (qV.weak [false, true, false] (jt_L_cell_15 hl C hret ht LL xs hX a2 (69069 : Int32) (xs (a2).toNatClampNeg)  s0)))))))))))))
def f_L_pick (LL : Nat) (xs : (Nat → Int32)) (a2 : Int32) (a3 : Int32) (s0 : qS) : Option qO :=
  qbind (f_L_cell LL xs a2 s0) (qvI (fun r1 s1 =>
  (if a3 = 0 then none else (some (.inl (some (qI (((r1).toUInt32 >>> (((8 : Int32)).toUInt32 &&& Int32.toUInt32 31)).toInt32 - ((r1).toUInt32 >>> (((8 : Int32)).toUInt32 &&& Int32.toUInt32 31)).toInt32 / a3 * a3))), s1))))) qE0
set_option maxRecDepth 100000 in
set_option maxHeartbeats 4000000 in
theorem t_L_pick {g : qG} {l : Launch} (hl : l.stackTraces = false) {LL : Nat} {xs : Nat → Int32} (a2 : Int32) (a3 : Int32) (hX : qScr g LL xs) (s0 : qS) : qM g l 2 0 0 (.code yL_pick cL_pick 3 (some .int)) yL_pick [qR 45 0, qI a2, qI a3] s0 (f_L_pick LL xs a2 a3 s0) := by
  refine qM_of (by decide +kernel) hl (List.forall_mem_cons.mpr ⟨rfl, (List.forall_mem_cons.mpr ⟨rfl, (List.forall_mem_cons.mpr ⟨rfl, (fun _ h => absurd h List.not_mem_nil)⟩)⟩)⟩) (Nat.le_of_ble_eq_true rfl) ?_
  intro p e s m args below meth c C hret ht
  show qV p l e _ s m args below meth c g _ _ _ _ _ 0 [some (qR 45 0), some (qI a2), some (qI a3)] [] s0
  exact (qv_aload_n C dL_pick_0 rfl (qv_iload_n C dL_pick_1 rfl (qv_callS C (rest := []) (cb := 0) (sb := 0) (t_L_cell hl a2 hX s0) mw_L_cell lk_L_9 st_L_cell rfl (Nat.le_of_ble_eq_true rfl) (by decide) dL_pick_2 rfl (qkI (fun r1 s1 => (qv_bipush C (v := (8 : Int32)) dL_pick_5 (by decide) (qv_iushr C dL_pick_7 (qv_iload_n C dL_pick_8 rfl (qv_irem C dL_pick_9 (fun _ => (qv_iret C hret dL_pick_10)))))))))))
def f_L_told (a1 : Int32) (s0 : qS) : Option qO :=
  (if a1 = 0 then (some (.inl (some (qI (0 : Int32))), s0)) else
  (some (.inl (some (qI (1 : Int32))), s0)))
set_option maxRecDepth 100000 in
set_option maxHeartbeats 4000000 in
theorem t_L_told {g : qG} {l : Launch} (hl : l.stackTraces = false) (a1 : Int32) (s0 : qS) : qM g l 1 0 0 (.code yL_told cL_told 1 (some .int)) yL_told [qI a1] s0 (f_L_told a1 s0) := by
  refine qM_of (by decide +kernel) hl (List.forall_mem_cons.mpr ⟨rfl, (fun _ h => absurd h List.not_mem_nil)⟩) (Nat.le_of_ble_eq_true rfl) ?_
  intro p e s m args below meth c C hret ht
  show qV p l e _ s m args below meth c g _ _ _ _ _ 0 [some (qI a1)] [] s0
  exact (qv_iload_n C dL_told_0 rfl (qv_if_eq C (tgt := 8) dL_told_1 (by decide) (fun _ => (qv_iconst C (v := (0 : Int32)) dL_told_8 (by decide) (qv_iret C hret dL_told_9)))
  (fun _ => (qv_iconst C (v := (1 : Int32)) dL_told_4 (by decide) (qv_goto C (tgt := 9) dL_told_5 (by decide) (qv_iret C hret dL_told_9))))))
def f_L_plain (a2 : Int32) (a3 : Int32) (a4 : Int32) (a5 : Int32) (a6 : Int32) (s0 : qS) : Option qO :=
  (qsw a2 0 [qbind (f_X7_addTask a3 a4 a5 a6 s0) (qvI (fun r1 s1 =>
  (some (.inl (some (qI r1)), s1)))) qE1,
  qbind (f_X7_removeTask a3 s0) (qvI (fun r2 s2 =>
  (some (.inl (some (qI r2)), s2)))) qE1,
  qbind (f_X7_addDependency a3 a4 s0) (qvI (fun r3 s3 =>
  qbind (f_L_told r3 s3) (qvI (fun r4 s4 =>
  (some (.inl (some (qI r4)), s4)))) qE0)) qE1,
  qbind (f_X7_removeDependency a3 a4 s0) (qvI (fun r5 s5 =>
  qbind (f_L_told r5 s5) (qvI (fun r6 s6 =>
  (some (.inl (some (qI r6)), s6)))) qE0)) qE1,
  qbind (f_X7_setDuration a3 a4 s0) (qvI (fun r7 s7 =>
  (some (.inl (some (qI r7)), s7)))) qE1,
  qbind (f_X7_setRelease a3 a4 s0) (qvI (fun r8 s8 =>
  (some (.inl (some (qI r8)), s8)))) qE1,
  qbind (f_X7_setLimit a3 a4 s0) (qvI (fun r9 s9 =>
  (some (.inl (some (qI r9)), s9)))) qE1,
  qbind (f_X7_takeBaseline  s0) (qvI (fun r10 s10 =>
  (some (.inl (some (qI r10)), s10)))) qE0] (none))
set_option maxRecDepth 100000 in
set_option maxHeartbeats 4000000 in
theorem t_L_plain {g : qG} {l : Launch} (hl : l.stackTraces = false) (a2 : Int32) (a3 : Int32) (a4 : Int32) (a5 : Int32) (a6 : Int32) (s0 : qS) : qM g l 25 1 6 (.code yL_plain cL_plain 6 (some .int)) yL_plain [qR 0 0, qI a2, qI a3, qI a4, qI a5, qI a6] s0 (f_L_plain a2 a3 a4 a5 a6 s0) := by
  refine qM_of (by decide +kernel) hl (List.forall_mem_cons.mpr ⟨rfl, (List.forall_mem_cons.mpr ⟨rfl, (List.forall_mem_cons.mpr ⟨rfl, (List.forall_mem_cons.mpr ⟨rfl, (List.forall_mem_cons.mpr ⟨rfl, (List.forall_mem_cons.mpr ⟨rfl, (fun _ h => absurd h List.not_mem_nil)⟩)⟩)⟩)⟩)⟩)⟩) (Nat.le_of_ble_eq_true rfl) ?_
  intro p e s m args below meth c C hret ht
  show qV p l e _ s m args below meth c g _ _ _ _ _ 0 [some (qR 0 0), some (qI a2), some (qI a3), some (qI a4), some (qI a5), some (qI a6)] [] s0
  exact (qv_iload_n C dL_plain_0 rfl (qv_tsw C (tg := [48, 59, 65, 75, 85, 92, 99, 106]) (dt := 111) dL_plain_1 (by decide) (by decide) (by decide) ⟨(qv_aload_n C dL_plain_48 rfl (qv_iload_n C dL_plain_49 rfl (qv_iload_n C dL_plain_50 rfl (qv_iload C dL_plain_51 rfl (qv_iload C dL_plain_53 rfl (qt_callV C (rest := []) (cb := 0) (sb := 0) (t_X7_addTask hl a3 a4 a5 a6 s0) mw_X7_addTask lk_L_15 in_X7_addTask se_X7_addTask rfl (by decide) (by decide) rfl rfl (Nat.le_of_ble_eq_true rfl) (by decide) dL_plain_55 rfl ht (qkI (fun r1 s1 => (qv_iret C hret dL_plain_58))))))))), (qv_aload_n C dL_plain_59 rfl (qv_iload_n C dL_plain_60 rfl (qt_callV C (rest := []) (cb := 0) (sb := 0) (t_X7_removeTask hl a3 s0) mw_X7_removeTask lk_L_21 in_X7_removeTask se_X7_removeTask rfl (by decide) (by decide) rfl rfl (Nat.le_of_ble_eq_true rfl) (by decide) dL_plain_61 rfl ht (qkI (fun r2 s2 => (qv_iret C hret dL_plain_64)))))), (qv_aload_n C dL_plain_65 rfl (qv_iload_n C dL_plain_66 rfl (qv_iload_n C dL_plain_67 rfl (qt_callV C (rest := []) (cb := 0) (sb := 0) (t_X7_addDependency hl a3 a4 s0) mw_X7_addDependency lk_L_25 in_X7_addDependency se_X7_addDependency rfl (by decide) (by decide) rfl rfl (Nat.le_of_ble_eq_true rfl) (by decide) dL_plain_68 rfl ht (qkI (fun r3 s3 => (qv_callS C (rest := []) (cb := 0) (sb := 0) (t_L_told hl r3 s3) mw_L_told lk_L_29 st_L_told rfl (Nat.le_of_ble_eq_true rfl) (by decide) dL_plain_71 rfl (qkI (fun r4 s4 => (qv_iret C hret dL_plain_74)))))))))), (qv_aload_n C dL_plain_75 rfl (qv_iload_n C dL_plain_76 rfl (qv_iload_n C dL_plain_77 rfl (qt_callV C (rest := []) (cb := 0) (sb := 0) (t_X7_removeDependency hl a3 a4 s0) mw_X7_removeDependency lk_L_33 in_X7_removeDependency se_X7_removeDependency rfl (by decide) (by decide) rfl rfl (Nat.le_of_ble_eq_true rfl) (by decide) dL_plain_78 rfl ht (qkI (fun r5 s5 => (qv_callS C (rest := []) (cb := 0) (sb := 0) (t_L_told hl r5 s5) mw_L_told lk_L_29 st_L_told rfl (Nat.le_of_ble_eq_true rfl) (by decide) dL_plain_81 rfl (qkI (fun r6 s6 => (qv_iret C hret dL_plain_84)))))))))), (qv_aload_n C dL_plain_85 rfl (qv_iload_n C dL_plain_86 rfl (qv_iload_n C dL_plain_87 rfl (qt_callV C (rest := []) (cb := 0) (sb := 0) (t_X7_setDuration hl a3 a4 s0) mw_X7_setDuration lk_L_36 in_X7_setDuration se_X7_setDuration rfl (by decide) (by decide) rfl rfl (Nat.le_of_ble_eq_true rfl) (by decide) dL_plain_88 rfl ht (qkI (fun r7 s7 => (qv_iret C hret dL_plain_91))))))), (qv_aload_n C dL_plain_92 rfl (qv_iload_n C dL_plain_93 rfl (qv_iload_n C dL_plain_94 rfl (qt_callV C (rest := []) (cb := 0) (sb := 0) (t_X7_setRelease hl a3 a4 s0) mw_X7_setRelease lk_L_40 in_X7_setRelease se_X7_setRelease rfl (by decide) (by decide) rfl rfl (Nat.le_of_ble_eq_true rfl) (by decide) dL_plain_95 rfl ht (qkI (fun r8 s8 => (qv_iret C hret dL_plain_98))))))), (qv_aload_n C dL_plain_99 rfl (qv_iload_n C dL_plain_100 rfl (qv_iload_n C dL_plain_101 rfl (qt_callV C (rest := []) (cb := 0) (sb := 0) (t_X7_setLimit hl a3 a4 s0) mw_X7_setLimit lk_L_43 in_X7_setLimit se_X7_setLimit rfl (by decide) (by decide) rfl rfl (Nat.le_of_ble_eq_true rfl) (by decide) dL_plain_102 rfl ht (qkI (fun r9 s9 => (qv_iret C hret dL_plain_105))))))), (qV.less (cb' := 0) (sb' := 0) (qv_aload_n C dL_plain_106 rfl (qv_callV C (rest := []) (cb := 0) (sb := 0) (t_X7_takeBaseline hl  s0) mw_X7_takeBaseline lk_L_46 in_X7_takeBaseline se_X7_takeBaseline rfl (by decide) (by decide) rfl rfl (Nat.le_of_ble_eq_true rfl) (by decide) dL_plain_107 rfl (qkI (fun r10 s10 => (qv_iret C hret dL_plain_110))))) (by decide) (by decide)), trivial⟩ (qV.less (cb' := 0) (sb' := 0) qV.no (by decide) (by decide))))
def f_L_deed (a2 : Int32) (a3 : Int32) (a4 : Int32) (a5 : Int32) (a6 : Int32) (s0 : qS) : Option qO :=
  qbind (f_L_plain a2 a3 a4 a5 a6 s0) (qvI (fun r1 s1 =>
  (some (.inl (some (qI r1)), s1)))) (fun E s1 => (if E = qIOE then (some (.inl (some (qI (-2002 : Int32))), s1)) else
  (if E = qIAE then (some (.inl (some (qI (-2003 : Int32))), s1)) else
  (if E = qISE then (some (.inl (some (qI (-2005 : Int32))), s1)) else
  (if E = qUOE then (some (.inl (some (qI (-2001 : Int32))), s1)) else
  none)))))
set_option maxRecDepth 100000 in
set_option maxHeartbeats 4000000 in
theorem t_L_deed {g : qG} {l : Launch} (hl : l.stackTraces = false) (a2 : Int32) (a3 : Int32) (a4 : Int32) (a5 : Int32) (a6 : Int32) (s0 : qS) : qM g l 26 1 6 (.codeWith yL_deed cL_deed 7 (some .int) [(0, 11, 12, 57), (0, 11, 18, 59), (0, 11, 24, 61), (0, 11, 30, 63)]) yL_deed [qR 0 0, qI a2, qI a3, qI a4, qI a5, qI a6] s0 (f_L_deed a2 a3 a4 a5 a6 s0) := by
  refine qM_ofH (by decide +kernel) hl (List.forall_mem_cons.mpr ⟨rfl, (List.forall_mem_cons.mpr ⟨rfl, (List.forall_mem_cons.mpr ⟨rfl, (List.forall_mem_cons.mpr ⟨rfl, (List.forall_mem_cons.mpr ⟨rfl, (List.forall_mem_cons.mpr ⟨rfl, (fun _ h => absurd h List.not_mem_nil)⟩)⟩)⟩)⟩)⟩)⟩) (Nat.le_of_ble_eq_true rfl) ?_
  intro p e s m args below meth c C hret ht
  show qV p l e _ s m args below meth c g _ _ _ _ _ 0 [some (qR 0 0), some (qI a2), some (qI a3), some (qI a4), some (qI a5), some (qI a6), none] [] s0
  exact (qv_aload_n C dL_deed_0 rfl (qv_iload_n C dL_deed_1 rfl (qv_iload_n C dL_deed_2 rfl (qv_iload_n C dL_deed_3 rfl (qv_iload C dL_deed_4 rfl (qv_iload C dL_deed_6 rfl (qh_callS C (rest := []) (cb := 0) (sb := 0) (t_L_plain hl a2 a3 a4 a5 a6 s0) mw_L_plain lk_L_53 st_L_plain rfl (Nat.le_of_ble_eq_true rfl) (by decide) dL_deed_8 rfl (qkI (fun r1 s1 => (qv_iret C hret dL_deed_11))) (fun E s1 => (qVX_if (qVX_catch C ht [] [(0, 11, 18, 59), (0, 11, 24, 61), (0, 11, 30, 63)] (x := (0, 11, 12, 57)) (i := 6) (n := 2) rfl (fun _ h => absurd h List.not_mem_nil) (by decide) (by decide) ckl_57 cast_IOE (Or.inl ⟨dL_deed_12, rfl⟩) (by decide) rfl (qv_sipush C (v := (-2002 : Int32)) dL_deed_14 (by decide) (qv_iret C hret dL_deed_17))) (qVX_if (qVX_catch C ht [(0, 11, 12, 57)] [(0, 11, 24, 61), (0, 11, 30, 63)] (x := (0, 11, 18, 59)) (i := 6) (n := 2) rfl (List.forall_mem_cons.mpr ⟨⟨by decide, _, ckl_57, by decide +kernel⟩, (fun _ h => absurd h List.not_mem_nil)⟩) (by decide) (by decide) ckl_59 cast_IAE (Or.inl ⟨dL_deed_18, rfl⟩) (by decide) rfl (qv_sipush C (v := (-2003 : Int32)) dL_deed_20 (by decide) (qv_iret C hret dL_deed_23))) (qVX_if (qVX_catch C ht [(0, 11, 12, 57), (0, 11, 18, 59)] [(0, 11, 30, 63)] (x := (0, 11, 24, 61)) (i := 6) (n := 2) rfl (List.forall_mem_cons.mpr ⟨⟨by decide, _, ckl_57, by decide +kernel⟩, (List.forall_mem_cons.mpr ⟨⟨by decide, _, ckl_59, by decide +kernel⟩, (fun _ h => absurd h List.not_mem_nil)⟩)⟩) (by decide) (by decide) ckl_61 cast_ISE (Or.inl ⟨dL_deed_24, rfl⟩) (by decide) rfl (qv_sipush C (v := (-2005 : Int32)) dL_deed_26 (by decide) (qv_iret C hret dL_deed_29))) (qVX_if (qVX_catch C ht [(0, 11, 12, 57), (0, 11, 18, 59), (0, 11, 24, 61)] [] (x := (0, 11, 30, 63)) (i := 6) (n := 2) rfl (List.forall_mem_cons.mpr ⟨⟨by decide, _, ckl_57, by decide +kernel⟩, (List.forall_mem_cons.mpr ⟨⟨by decide, _, ckl_59, by decide +kernel⟩, (List.forall_mem_cons.mpr ⟨⟨by decide, _, ckl_61, by decide +kernel⟩, (fun _ h => absurd h List.not_mem_nil)⟩)⟩)⟩) (by decide) (by decide) ckl_63 cast_UOE (Or.inl ⟨dL_deed_30, rfl⟩) (by decide) rfl (qv_sipush C (v := (-2001 : Int32)) dL_deed_32 (by decide) (qv_iret C hret dL_deed_35))) qVX_no))))))))))))
