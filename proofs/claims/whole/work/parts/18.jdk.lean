/-! words of the JDK methods, and these methods -/
theorem mw_J6_bitCount_0f7a4 : qMw yJ6_bitCount_0f7a4 cJ6_bitCount_0f7a4 1 1 (some .int) := ⟨qWA_in (List.mem_of_getElem? (i := 847) (by decide +kernel)) rfl, qWA_in (List.mem_of_getElem? (i := 124) (by decide +kernel)) rfl, ⟨by decide +kernel, by decide +kernel⟩, by decide +kernel⟩
theorem st_J6_bitCount_0f7a4 : Cond.static yJ6_bitCount_0f7a4 ∈ qWA := qWA_in (List.mem_of_getElem? (i := 846) (by decide +kernel)) rfl
theorem lk_X7_173 : Cond.methodLink RX7 173 yJ6_bitCount_0f7a4 ∈ qWA := qWA_in (List.mem_of_getElem? (i := 845) (by decide +kernel)) rfl
theorem lk_X8_169 : Cond.methodLink RX8 169 yJ6_bitCount_0f7a4 ∈ qWA := qWA_in (List.mem_of_getElem? (i := 1577) (by decide +kernel)) rfl
theorem mw_J0_length_8abf5 : qMw yJ0_length_8abf5 cJ0_length_8abf5 1 0 (some .int) := ⟨qWA_in (List.mem_of_getElem? (i := 1152) (by decide +kernel)) rfl, qWA_in (List.mem_of_getElem? (i := 123) (by decide +kernel)) rfl, ⟨by decide +kernel, by decide +kernel⟩, by decide +kernel⟩
theorem in_J0_length_8abf5 : Cond.instanceMethod yJ0_length_8abf5 ∈ qWA := qWA_in (List.mem_of_getElem? (i := 1150) (by decide +kernel)) rfl
theorem se_J0_length_8abf5 : Cond.selects RJ0 yJ0_length_8abf5 yJ0_length_8abf5 ∈ qWA := qWA_in (List.mem_of_getElem? (i := 1151) (by decide +kernel)) rfl
theorem lk_X6_64 : Cond.methodLink RX6 64 yJ0_length_8abf5 ∈ qWA := qWA_in (List.mem_of_getElem? (i := 1149) (by decide +kernel)) rfl
theorem mw_J0_charAt_5068e : qMw yJ0_charAt_5068e cJ0_charAt_5068e 2 1 (some .char) := ⟨qWA_in (List.mem_of_getElem? (i := 1162) (by decide +kernel)) rfl, qWA_in (List.mem_of_getElem? (i := 123) (by decide +kernel)) rfl, ⟨by decide +kernel, by decide +kernel⟩, by decide +kernel⟩
theorem in_J0_charAt_5068e : Cond.instanceMethod yJ0_charAt_5068e ∈ qWA := qWA_in (List.mem_of_getElem? (i := 1160) (by decide +kernel)) rfl
theorem se_J0_charAt_5068e : Cond.selects RJ0 yJ0_charAt_5068e yJ0_charAt_5068e ∈ qWA := qWA_in (List.mem_of_getElem? (i := 1161) (by decide +kernel)) rfl
theorem lk_X6_69 : Cond.methodLink RX6 69 yJ0_charAt_5068e ∈ qWA := qWA_in (List.mem_of_getElem? (i := 1159) (by decide +kernel)) rfl
theorem lk_X8_220 : Cond.methodLink RX8 220 yJ0_charAt_5068e ∈ qWA := qWA_in (List.mem_of_getElem? (i := 1743) (by decide +kernel)) rfl
theorem mw_J0_coder_7d493 : qMw yJ0_coder_7d493 cJ0_coder_7d493 1 0 (some .byte) := ⟨qWA_in (List.mem_of_getElem? (i := 1156) (by decide +kernel)) rfl, qWA_in (List.mem_of_getElem? (i := 123) (by decide +kernel)) rfl, ⟨by decide +kernel, by decide +kernel⟩, by decide +kernel⟩
theorem in_J0_coder_7d493 : Cond.instanceMethod yJ0_coder_7d493 ∈ qWA := qWA_in (List.mem_of_getElem? (i := 1154) (by decide +kernel)) rfl
theorem se_J0_coder_7d493 : Cond.selects RJ0 yJ0_coder_7d493 yJ0_coder_7d493 ∈ qWA := qWA_in (List.mem_of_getElem? (i := 1155) (by decide +kernel)) rfl
theorem lk_J0_335 : Cond.methodLink RJ0 335 yJ0_coder_7d493 ∈ qWA := qWA_in (List.mem_of_getElem? (i := 1153) (by decide +kernel)) rfl
theorem mw_J0_isLatin1_aae02 : qMw yJ0_isLatin1_aae02 cJ0_isLatin1_aae02 1 0 (some .boolean) := ⟨qWA_in (List.mem_of_getElem? (i := 1166) (by decide +kernel)) rfl, qWA_in (List.mem_of_getElem? (i := 123) (by decide +kernel)) rfl, ⟨by decide +kernel, by decide +kernel⟩, by decide +kernel⟩
theorem in_J0_isLatin1_aae02 : Cond.instanceMethod yJ0_isLatin1_aae02 ∈ qWA := qWA_in (List.mem_of_getElem? (i := 1164) (by decide +kernel)) rfl
theorem se_J0_isLatin1_aae02 : Cond.selects RJ0 yJ0_isLatin1_aae02 yJ0_isLatin1_aae02 ∈ qWA := qWA_in (List.mem_of_getElem? (i := 1165) (by decide +kernel)) rfl
theorem lk_J0_492 : Cond.methodLink RJ0 492 yJ0_isLatin1_aae02 ∈ qWA := qWA_in (List.mem_of_getElem? (i := 1163) (by decide +kernel)) rfl
theorem mw_J0_checkIndex_df160 : qMw yJ0_checkIndex_df160 cJ0_checkIndex_df160 2 2 none := ⟨qWA_in (List.mem_of_getElem? (i := 1172) (by decide +kernel)) rfl, qWA_in (List.mem_of_getElem? (i := 123) (by decide +kernel)) rfl, ⟨by decide +kernel, by decide +kernel⟩, by decide +kernel⟩
theorem st_J0_checkIndex_df160 : Cond.static yJ0_checkIndex_df160 ∈ qWA := qWA_in (List.mem_of_getElem? (i := 1171) (by decide +kernel)) rfl
theorem lk_J1_9 : Cond.methodLink RJ1 9 yJ0_checkIndex_df160 ∈ qWA := qWA_in (List.mem_of_getElem? (i := 1170) (by decide +kernel)) rfl
theorem mw_J1_charAt_3b067 : qMw yJ1_charAt_3b067 cJ1_charAt_3b067 2 2 (some .char) := ⟨qWA_in (List.mem_of_getElem? (i := 1169) (by decide +kernel)) rfl, qWA_in (List.mem_of_getElem? (i := 127) (by decide +kernel)) rfl, ⟨by decide +kernel, by decide +kernel⟩, by decide +kernel⟩
theorem st_J1_charAt_3b067 : Cond.static yJ1_charAt_3b067 ∈ qWA := qWA_in (List.mem_of_getElem? (i := 1168) (by decide +kernel)) rfl
theorem lk_J0_495 : Cond.methodLink RJ0 495 yJ1_charAt_3b067 ∈ qWA := qWA_in (List.mem_of_getElem? (i := 1167) (by decide +kernel)) rfl
theorem mw_J3_checkIndex_8e157 : qMw yJ3_checkIndex_8e157 cJ3_checkIndex_8e157 3 3 (some .int) := ⟨qWA_in (List.mem_of_getElem? (i := 1177) (by decide +kernel)) rfl, qWA_in (List.mem_of_getElem? (i := 128) (by decide +kernel)) rfl, ⟨by decide +kernel, by decide +kernel⟩, by decide +kernel⟩
theorem st_J3_checkIndex_8e157 : Cond.static yJ3_checkIndex_8e157 ∈ qWA := qWA_in (List.mem_of_getElem? (i := 1176) (by decide +kernel)) rfl
theorem lk_J0_1059 : Cond.methodLink RJ0 1059 yJ3_checkIndex_8e157 ∈ qWA := qWA_in (List.mem_of_getElem? (i := 1175) (by decide +kernel)) rfl
def f_J6_bitCount_0f7a4 (a1 : Int32) (s0 : qS) : Option qO :=
  (some (.inl (some (qI ((((((((a1 - (((a1).toUInt32 >>> (((1 : Int32)).toUInt32 &&& Int32.toUInt32 31)).toInt32 &&& (1431655765 : Int32))) &&& (858993459 : Int32)) + ((((a1 - (((a1).toUInt32 >>> (((1 : Int32)).toUInt32 &&& Int32.toUInt32 31)).toInt32 &&& (1431655765 : Int32)))).toUInt32 >>> (((2 : Int32)).toUInt32 &&& Int32.toUInt32 31)).toInt32 &&& (858993459 : Int32))) + (((((a1 - (((a1).toUInt32 >>> (((1 : Int32)).toUInt32 &&& Int32.toUInt32 31)).toInt32 &&& (1431655765 : Int32))) &&& (858993459 : Int32)) + ((((a1 - (((a1).toUInt32 >>> (((1 : Int32)).toUInt32 &&& Int32.toUInt32 31)).toInt32 &&& (1431655765 : Int32)))).toUInt32 >>> (((2 : Int32)).toUInt32 &&& Int32.toUInt32 31)).toInt32 &&& (858993459 : Int32)))).toUInt32 >>> (((4 : Int32)).toUInt32 &&& Int32.toUInt32 31)).toInt32) &&& (252645135 : Int32)) + (((((((a1 - (((a1).toUInt32 >>> (((1 : Int32)).toUInt32 &&& Int32.toUInt32 31)).toInt32 &&& (1431655765 : Int32))) &&& (858993459 : Int32)) + ((((a1 - (((a1).toUInt32 >>> (((1 : Int32)).toUInt32 &&& Int32.toUInt32 31)).toInt32 &&& (1431655765 : Int32)))).toUInt32 >>> (((2 : Int32)).toUInt32 &&& Int32.toUInt32 31)).toInt32 &&& (858993459 : Int32))) + (((((a1 - (((a1).toUInt32 >>> (((1 : Int32)).toUInt32 &&& Int32.toUInt32 31)).toInt32 &&& (1431655765 : Int32))) &&& (858993459 : Int32)) + ((((a1 - (((a1).toUInt32 >>> (((1 : Int32)).toUInt32 &&& Int32.toUInt32 31)).toInt32 &&& (1431655765 : Int32)))).toUInt32 >>> (((2 : Int32)).toUInt32 &&& Int32.toUInt32 31)).toInt32 &&& (858993459 : Int32)))).toUInt32 >>> (((4 : Int32)).toUInt32 &&& Int32.toUInt32 31)).toInt32) &&& (252645135 : Int32))).toUInt32 >>> (((8 : Int32)).toUInt32 &&& Int32.toUInt32 31)).toInt32) + ((((((((a1 - (((a1).toUInt32 >>> (((1 : Int32)).toUInt32 &&& Int32.toUInt32 31)).toInt32 &&& (1431655765 : Int32))) &&& (858993459 : Int32)) + ((((a1 - (((a1).toUInt32 >>> (((1 : Int32)).toUInt32 &&& Int32.toUInt32 31)).toInt32 &&& (1431655765 : Int32)))).toUInt32 >>> (((2 : Int32)).toUInt32 &&& Int32.toUInt32 31)).toInt32 &&& (858993459 : Int32))) + (((((a1 - (((a1).toUInt32 >>> (((1 : Int32)).toUInt32 &&& Int32.toUInt32 31)).toInt32 &&& (1431655765 : Int32))) &&& (858993459 : Int32)) + ((((a1 - (((a1).toUInt32 >>> (((1 : Int32)).toUInt32 &&& Int32.toUInt32 31)).toInt32 &&& (1431655765 : Int32)))).toUInt32 >>> (((2 : Int32)).toUInt32 &&& Int32.toUInt32 31)).toInt32 &&& (858993459 : Int32)))).toUInt32 >>> (((4 : Int32)).toUInt32 &&& Int32.toUInt32 31)).toInt32) &&& (252645135 : Int32)) + (((((((a1 - (((a1).toUInt32 >>> (((1 : Int32)).toUInt32 &&& Int32.toUInt32 31)).toInt32 &&& (1431655765 : Int32))) &&& (858993459 : Int32)) + ((((a1 - (((a1).toUInt32 >>> (((1 : Int32)).toUInt32 &&& Int32.toUInt32 31)).toInt32 &&& (1431655765 : Int32)))).toUInt32 >>> (((2 : Int32)).toUInt32 &&& Int32.toUInt32 31)).toInt32 &&& (858993459 : Int32))) + (((((a1 - (((a1).toUInt32 >>> (((1 : Int32)).toUInt32 &&& Int32.toUInt32 31)).toInt32 &&& (1431655765 : Int32))) &&& (858993459 : Int32)) + ((((a1 - (((a1).toUInt32 >>> (((1 : Int32)).toUInt32 &&& Int32.toUInt32 31)).toInt32 &&& (1431655765 : Int32)))).toUInt32 >>> (((2 : Int32)).toUInt32 &&& Int32.toUInt32 31)).toInt32 &&& (858993459 : Int32)))).toUInt32 >>> (((4 : Int32)).toUInt32 &&& Int32.toUInt32 31)).toInt32) &&& (252645135 : Int32))).toUInt32 >>> (((8 : Int32)).toUInt32 &&& Int32.toUInt32 31)).toInt32)).toUInt32 >>> (((16 : Int32)).toUInt32 &&& Int32.toUInt32 31)).toInt32) &&& (63 : Int32)))), s0))
set_option maxRecDepth 100000 in
set_option maxHeartbeats 4000000 in
theorem t_J6_bitCount_0f7a4 {g : qG} {l : Launch} (hl : l.stackTraces = false) (a1 : Int32) (s0 : qS) : qM g l 1 0 0 (.code yJ6_bitCount_0f7a4 cJ6_bitCount_0f7a4 1 (some .int)) yJ6_bitCount_0f7a4 [qI a1] s0 (f_J6_bitCount_0f7a4 a1 s0) := by
  refine qM_of (by decide +kernel) hl (List.forall_mem_cons.mpr ⟨rfl, (fun _ h => absurd h List.not_mem_nil)⟩) (Nat.le_of_ble_eq_true rfl) ?_
  intro p e s m args below meth c C hret ht
  show qV p l e _ s m args below meth c g _ _ _ _ _ 0 [some (qI a1)] [] s0
  exact (qv_iload_n C dJ6_bitCount_0f7a4_0 rfl (qv_iload_n C dJ6_bitCount_0f7a4_1 rfl (qv_iconst C (v := (1 : Int32)) dJ6_bitCount_0f7a4_2 (by decide) (qv_iushr C dJ6_bitCount_0f7a4_3 (qv_ldcwI C fs_b1 dJ6_bitCount_0f7a4_4 (qv_iand C dJ6_bitCount_0f7a4_7 (qv_isub C dJ6_bitCount_0f7a4_8 (qv_istore_n C dJ6_bitCount_0f7a4_9 (by decide) rfl (qv_iload_n C dJ6_bitCount_0f7a4_10 rfl (qv_ldcwI C fs_b2 dJ6_bitCount_0f7a4_11 (qv_iand C dJ6_bitCount_0f7a4_14 (qv_iload_n C dJ6_bitCount_0f7a4_15 rfl (qv_iconst C (v := (2 : Int32)) dJ6_bitCount_0f7a4_16 (by decide) (qv_iushr C dJ6_bitCount_0f7a4_17 (qv_ldcwI C fs_b2 dJ6_bitCount_0f7a4_18 (qv_iand C dJ6_bitCount_0f7a4_21 (qv_iadd C dJ6_bitCount_0f7a4_22 (qv_istore_n C dJ6_bitCount_0f7a4_23 (by decide) rfl (qv_iload_n C dJ6_bitCount_0f7a4_24 rfl (qv_iload_n C dJ6_bitCount_0f7a4_25 rfl (qv_iconst C (v := (4 : Int32)) dJ6_bitCount_0f7a4_26 (by decide) (qv_iushr C dJ6_bitCount_0f7a4_27 (qv_iadd C dJ6_bitCount_0f7a4_28 (qv_ldcwI C fs_b3 dJ6_bitCount_0f7a4_29 (qv_iand C dJ6_bitCount_0f7a4_32 (qv_istore_n C dJ6_bitCount_0f7a4_33 (by decide) rfl (qv_iload_n C dJ6_bitCount_0f7a4_34 rfl (qv_iload_n C dJ6_bitCount_0f7a4_35 rfl (qv_bipush C (v := (8 : Int32)) dJ6_bitCount_0f7a4_36 (by decide) (qv_iushr C dJ6_bitCount_0f7a4_38 (qv_iadd C dJ6_bitCount_0f7a4_39 (qv_istore_n C dJ6_bitCount_0f7a4_40 (by decide) rfl (qv_iload_n C dJ6_bitCount_0f7a4_41 rfl (qv_iload_n C dJ6_bitCount_0f7a4_42 rfl (qv_bipush C (v := (16 : Int32)) dJ6_bitCount_0f7a4_43 (by decide) (qv_iushr C dJ6_bitCount_0f7a4_45 (qv_iadd C dJ6_bitCount_0f7a4_46 (qv_istore_n C dJ6_bitCount_0f7a4_47 (by decide) rfl (qv_iload_n C dJ6_bitCount_0f7a4_48 rfl (qv_bipush C (v := (63 : Int32)) dJ6_bitCount_0f7a4_49 (by decide) (qv_iand C dJ6_bitCount_0f7a4_51 (qv_iret C hret dJ6_bitCount_0f7a4_52))))))))))))))))))))))))))))))))))))))))))
def f_J0_coder_7d493 (j0 : Nat) (s0 : qS) : Option qO :=
  (if (1 : Int32) = 0 then none else
  (some (.inl (some (qI (0 : Int32))), s0)))
set_option maxRecDepth 100000 in
set_option maxHeartbeats 4000000 in
theorem t_J0_coder_7d493 {g : qG} {l : Launch} (hl : l.stackTraces = false) {j0 : Nat} (hj0 : j0 < 9) (s0 : qS) : qM g l 1 0 0 (.code yJ0_coder_7d493 cJ0_coder_7d493 1 (some .byte)) yJ0_coder_7d493 [qR 42 j0] s0 (f_J0_coder_7d493 j0 s0) := by
  refine qM_of (by decide +kernel) hl (List.forall_mem_cons.mpr ⟨rfl, (fun _ h => absurd h List.not_mem_nil)⟩) (Nat.le_of_ble_eq_true rfl) ?_
  intro p e s m args below meth c C hret ht
  show qV p l e _ s m args below meth c g _ _ _ _ _ 0 [some (qR 42 j0)] [] s0
  exact (qv_gscs C dJ0_coder_7d493_0 (qv_if_eq C (tgt := 13) dJ0_coder_7d493_3 (by decide) (fun _ => qV.no)
  (fun _ => (qv_aload_n C dJ0_coder_7d493_6 rfl (qv_scod C (show j0 < 9 from hj0) dJ0_coder_7d493_7 (qv_goto C (tgt := 14) dJ0_coder_7d493_10 (by decide) (qv_zret! C hret rfl dJ0_coder_7d493_14)))))))
def f_J0_isLatin1_aae02 (j0 : Nat) (s0 : qS) : Option qO :=
  (if (1 : Int32) = 0 then none else
  (if (0 : Int32) = 0 then (some (.inl (some (qI (1 : Int32))), s0)) else
  none))
set_option maxRecDepth 100000 in
set_option maxHeartbeats 4000000 in
theorem t_J0_isLatin1_aae02 {g : qG} {l : Launch} (hl : l.stackTraces = false) {j0 : Nat} (hj0 : j0 < 9) (s0 : qS) : qM g l 1 0 0 (.code yJ0_isLatin1_aae02 cJ0_isLatin1_aae02 1 (some .boolean)) yJ0_isLatin1_aae02 [qR 42 j0] s0 (f_J0_isLatin1_aae02 j0 s0) := by
  refine qM_of (by decide +kernel) hl (List.forall_mem_cons.mpr ⟨rfl, (fun _ h => absurd h List.not_mem_nil)⟩) (Nat.le_of_ble_eq_true rfl) ?_
  intro p e s m args below meth c C hret ht
  show qV p l e _ s m args below meth c g _ _ _ _ _ 0 [some (qR 42 j0)] [] s0
  exact (qv_gscs C dJ0_isLatin1_aae02_0 (qv_if_eq C (tgt := 17) dJ0_isLatin1_aae02_3 (by decide) (fun _ => qV.no)
  (fun _ => (qv_aload_n C dJ0_isLatin1_aae02_6 rfl (qv_scod C (show j0 < 9 from hj0) dJ0_isLatin1_aae02_7 (qv_if_ne C (tgt := 17) dJ0_isLatin1_aae02_10 (by decide) (fun _ => (qv_iconst C (v := (1 : Int32)) dJ0_isLatin1_aae02_13 (by decide) (qv_goto C (tgt := 18) dJ0_isLatin1_aae02_14 (by decide) (qv_zret! C hret (qbo_nar (by decide)) dJ0_isLatin1_aae02_18))))
  (fun _ => qV.no)))))))
def f_J3_checkIndex_8e157 (a1 : Int32) (a2 : Int32) (s0 : qS) : Option qO :=
  (if a1 < 0 then none else
  (if a1 < a2 then (some (.inl (some (qI a1)), s0)) else
  none))
set_option maxRecDepth 100000 in
set_option maxHeartbeats 4000000 in
theorem t_J3_checkIndex_8e157 {g : qG} {l : Launch} (hl : l.stackTraces = false) (a1 : Int32) (a2 : Int32) {v3 : Value} (hv3 : v3.category = 1) (s0 : qS) : qM g l 1 0 0 (.code yJ3_checkIndex_8e157 cJ3_checkIndex_8e157 3 (some .int)) yJ3_checkIndex_8e157 [qI a1, qI a2, .inl v3] s0 (f_J3_checkIndex_8e157 a1 a2 s0) := by
  refine qM_of (by decide +kernel) hl (List.forall_mem_cons.mpr ⟨rfl, (List.forall_mem_cons.mpr ⟨rfl, (List.forall_mem_cons.mpr ⟨hv3, (fun _ h => absurd h List.not_mem_nil)⟩)⟩)⟩) (Nat.le_of_ble_eq_true rfl) ?_
  intro p e s m args below meth c C hret ht
  show qV p l e _ s m args below meth c g _ _ _ _ _ 0 [some (qI a1), some (qI a2), some (.inl v3)] [] s0
  exact (qv_iload_n C dJ3_checkIndex_8e157_0 rfl (qv_if_lt C (tgt := 9) dJ3_checkIndex_8e157_1 (by decide) (fun _ => qV.no)
  (fun _ => (qv_iload_n C dJ3_checkIndex_8e157_4 rfl (qv_iload_n C dJ3_checkIndex_8e157_5 rfl (qv_icmp_lt C (tgt := 16) dJ3_checkIndex_8e157_6 (by decide) (fun _ => (qv_iload_n C dJ3_checkIndex_8e157_16 rfl (qv_iret C hret dJ3_checkIndex_8e157_17)))
  (fun _ => qV.no)))))))
def f_J0_length_8abf5 (j0 : Nat) (s0 : qS) : Option qO :=
  qbind (f_J0_coder_7d493 j0 s0) (qvI (fun r1 s1 =>
  (some (.inl (some (qI ((Int32.ofNat (qsl j0)) >>> (r1 &&& 31)))), s1)))) qE0
set_option maxRecDepth 100000 in
set_option maxHeartbeats 4000000 in
theorem t_J0_length_8abf5 {g : qG} {l : Launch} (hl : l.stackTraces = false) {j0 : Nat} (hj0 : j0 < 9) (s0 : qS) : qM g l 2 0 0 (.code yJ0_length_8abf5 cJ0_length_8abf5 1 (some .int)) yJ0_length_8abf5 [qR 42 j0] s0 (f_J0_length_8abf5 j0 s0) := by
  refine qM_of (by decide +kernel) hl (List.forall_mem_cons.mpr ⟨rfl, (fun _ h => absurd h List.not_mem_nil)⟩) (Nat.le_of_ble_eq_true rfl) ?_
  intro p e s m args below meth c C hret ht
  show qV p l e _ s m args below meth c g _ _ _ _ _ 0 [some (qR 42 j0)] [] s0
  exact (qv_aload_n C dJ0_length_8abf5_0 rfl (qv_sval C (show j0 < 9 from hj0) dJ0_length_8abf5_1 (qv_blen C (show j0 < 9 from hj0) dJ0_length_8abf5_4 (qv_aload_n C dJ0_length_8abf5_5 rfl (qv_callT C (rest := [qI (Int32.ofNat (qsl j0))]) (cb := 0) (sb := 0) (t_J0_coder_7d493 hl (show j0 < 9 from hj0) s0) mw_J0_coder_7d493 lk_J0_335 in_J0_coder_7d493 se_J0_coder_7d493 (show j0 < 9 from hj0) rfl (Nat.le_of_ble_eq_true rfl) (by decide) dJ0_length_8abf5_6 rfl (qkI (fun r1 s1 => (qv_ishr C dJ0_length_8abf5_9 (qv_iret C hret dJ0_length_8abf5_10)))))))))
def f_J0_checkIndex_df160 (a1 : Int32) (a2 : Int32) (s0 : qS) : Option qO :=
  qbind (f_J3_checkIndex_8e157 a1 a2 s0) (qvI (fun r1 s1 =>
  (some (.inl none, s1)))) qE0
set_option maxRecDepth 100000 in
set_option maxHeartbeats 4000000 in
theorem t_J0_checkIndex_df160 {g : qG} {l : Launch} (hl : l.stackTraces = false) (a1 : Int32) (a2 : Int32) (s0 : qS) : qM g l 2 0 0 (.code yJ0_checkIndex_df160 cJ0_checkIndex_df160 2 none) yJ0_checkIndex_df160 [qI a1, qI a2] s0 (f_J0_checkIndex_df160 a1 a2 s0) := by
  refine qM_of (by decide +kernel) hl (List.forall_mem_cons.mpr ⟨rfl, (List.forall_mem_cons.mpr ⟨rfl, (fun _ h => absurd h List.not_mem_nil)⟩)⟩) (Nat.le_of_ble_eq_true rfl) ?_
  intro p e s m args below meth c C hret ht
  show qV p l e _ s m args below meth c g _ _ _ _ _ 0 [some (qI a1), some (qI a2)] [] s0
  exact (qv_iload_n C dJ0_checkIndex_df160_0 rfl (qv_iload_n C dJ0_checkIndex_df160_1 rfl (qv_gssi C dJ0_checkIndex_df160_2 (fun v hv => (qv_callS C (rest := []) (cb := 0) (sb := 0) (t_J3_checkIndex_8e157 hl a1 a2 hv s0) mw_J3_checkIndex_8e157 lk_J0_1059 st_J3_checkIndex_8e157 rfl (Nat.le_of_ble_eq_true rfl) (by decide) dJ0_checkIndex_df160_5 rfl (qkI (fun r1 s1 => (qv_pop C dJ0_checkIndex_df160_8 rfl (qv_vret C hret dJ0_checkIndex_df160_9)))))))))
def f_J1_charAt_3b067 (j1 : Nat) (a2 : Int32) (s0 : qS) : Option qO :=
  qbind (f_J0_checkIndex_df160 a2 (Int32.ofNat (qsl j1)) s0) (qvV (fun s1 =>
  (if qin a2 (qsl j1) then (if qch ((((qsc j1 (a2).toNatClampNeg) &&& (255 : Int32)).toUInt32 % 65536).toInt32) then some (.inl (some (qI ((((qsc j1 (a2).toNatClampNeg) &&& (255 : Int32)).toUInt32 % 65536).toInt32))), s1) else none) else none))) qE0
set_option maxRecDepth 100000 in
set_option maxHeartbeats 4000000 in
theorem t_J1_charAt_3b067 {g : qG} {l : Launch} (hl : l.stackTraces = false) {j1 : Nat} (hj1 : j1 < 9) (a2 : Int32) (s0 : qS) : qM g l 3 0 0 (.code yJ1_charAt_3b067 cJ1_charAt_3b067 2 (some .char)) yJ1_charAt_3b067 [qR 44 j1, qI a2] s0 (f_J1_charAt_3b067 j1 a2 s0) := by
  refine qM_of (by decide +kernel) hl (List.forall_mem_cons.mpr ⟨rfl, (List.forall_mem_cons.mpr ⟨rfl, (fun _ h => absurd h List.not_mem_nil)⟩)⟩) (Nat.le_of_ble_eq_true rfl) ?_
  intro p e s m args below meth c C hret ht
  show qV p l e _ s m args below meth c g _ _ _ _ _ 0 [some (qR 44 j1), some (qI a2)] [] s0
  exact (qv_iload_n C dJ1_charAt_3b067_0 rfl (qv_aload_n C dJ1_charAt_3b067_1 rfl (qv_blen C (show j1 < 9 from hj1) dJ1_charAt_3b067_2 (qv_callS C (rest := []) (cb := 0) (sb := 0) (t_J0_checkIndex_df160 hl a2 (Int32.ofNat (qsl j1)) s0) mw_J0_checkIndex_df160 lk_J1_9 st_J0_checkIndex_df160 rfl (Nat.le_of_ble_eq_true rfl) (by decide) dJ1_charAt_3b067_3 rfl (qkV (fun s1 => (qv_aload_n C dJ1_charAt_3b067_6 rfl (qv_iload_n C dJ1_charAt_3b067_7 rfl (qv_bald C (show j1 < 9 from hj1) dJ1_charAt_3b067_8 (fun _ => (qv_sipush C (v := (255 : Int32)) dJ1_charAt_3b067_9 (by decide) (qv_iand C dJ1_charAt_3b067_12 (qv_i2c C dJ1_charAt_3b067_13 (qv_cret C hret dJ1_charAt_3b067_14))))))))))))))
def f_J0_charAt_5068e (j0 : Nat) (a1 : Int32) (s0 : qS) : Option qO :=
  qbind (f_J0_isLatin1_aae02 j0 s0) (qvI (fun r1 s1 =>
  (if r1 = 0 then none else
  qbind (f_J1_charAt_3b067 j0 a1 s1) (qvI (fun r2 s2 =>
  (if qch r2 then some (.inl (some (qI r2)), s2) else none))) qE0))) qE0
set_option maxRecDepth 100000 in
set_option maxHeartbeats 4000000 in
theorem t_J0_charAt_5068e {g : qG} {l : Launch} (hl : l.stackTraces = false) {j0 : Nat} (hj0 : j0 < 9) (a1 : Int32) (s0 : qS) : qM g l 4 0 0 (.code yJ0_charAt_5068e cJ0_charAt_5068e 2 (some .char)) yJ0_charAt_5068e [qR 42 j0, qI a1] s0 (f_J0_charAt_5068e j0 a1 s0) := by
  refine qM_of (by decide +kernel) hl (List.forall_mem_cons.mpr ⟨rfl, (List.forall_mem_cons.mpr ⟨rfl, (fun _ h => absurd h List.not_mem_nil)⟩)⟩) (Nat.le_of_ble_eq_true rfl) ?_
  intro p e s m args below meth c C hret ht
  show qV p l e _ s m args below meth c g _ _ _ _ _ 0 [some (qR 42 j0), some (qI a1)] [] s0
  exact (qv_aload_n C dJ0_charAt_5068e_0 rfl (qv_callT C (rest := []) (cb := 0) (sb := 0) (t_J0_isLatin1_aae02 hl (show j0 < 9 from hj0) s0) mw_J0_isLatin1_aae02 lk_J0_492 in_J0_isLatin1_aae02 se_J0_isLatin1_aae02 (show j0 < 9 from hj0) rfl (Nat.le_of_ble_eq_true rfl) (by decide) dJ0_charAt_5068e_1 rfl (qkI (fun r1 s1 => (qv_if_eq C (tgt := 16) dJ0_charAt_5068e_4 (by decide) (fun _ => qV.no)
  (fun _ => (qv_aload_n C dJ0_charAt_5068e_7 rfl (qv_sval C (show j0 < 9 from hj0) dJ0_charAt_5068e_8 (qv_iload_n C dJ0_charAt_5068e_11 rfl (qv_callS C (rest := []) (cb := 0) (sb := 0) (t_J1_charAt_3b067 hl (show j0 < 9 from hj0) a1 s1) mw_J1_charAt_3b067 lk_J0_495 st_J1_charAt_3b067 rfl (Nat.le_of_ble_eq_true rfl) (by decide) dJ0_charAt_5068e_12 rfl (qkI (fun r2 s2 => (qv_cret C hret dJ0_charAt_5068e_15)))))))))))))
