theorem zf_X2_11 : Cond.fieldLink RX2 11 RX2 (TX2 0).2.1 (TX2 0).2.2.1 ∈ qWA := qWA_in (List.mem_of_getElem? (i := 163) (by decide +kernel)) rfl
theorem zf_X7_12 : Cond.fieldLink RX7 12 RX7 (TX7 0).2.1 (TX7 0).2.2.1 ∈ qWA := qWA_in (List.mem_of_getElem? (i := 260) (by decide +kernel)) rfl
theorem zf_X7_16 : Cond.fieldLink RX7 16 RX7 (TX7 1).2.1 (TX7 1).2.2.1 ∈ qWA := qWA_in (List.mem_of_getElem? (i := 261) (by decide +kernel)) rfl
theorem zf_X7_19 : Cond.fieldLink RX7 19 RX7 (TX7 2).2.1 (TX7 2).2.2.1 ∈ qWA := qWA_in (List.mem_of_getElem? (i := 262) (by decide +kernel)) rfl
theorem zf_X7_25 : Cond.fieldLink RX7 25 RX7 (TX7 3).2.1 (TX7 3).2.2.1 ∈ qWA := qWA_in (List.mem_of_getElem? (i := 263) (by decide +kernel)) rfl
theorem zf_X7_32 : Cond.fieldLink RX7 32 RX7 (TX7 4).2.1 (TX7 4).2.2.1 ∈ qWA := qWA_in (List.mem_of_getElem? (i := 264) (by decide +kernel)) rfl
theorem zf_X7_39 : Cond.fieldLink RX7 39 RX7 (TX7 5).2.1 (TX7 5).2.2.1 ∈ qWA := qWA_in (List.mem_of_getElem? (i := 265) (by decide +kernel)) rfl
theorem zf_X7_46 : Cond.fieldLink RX7 46 RX7 (TX7 6).2.1 (TX7 6).2.2.1 ∈ qWA := qWA_in (List.mem_of_getElem? (i := 266) (by decide +kernel)) rfl
theorem zf_X7_50 : Cond.fieldLink RX7 50 RX7 (TX7 7).2.1 (TX7 7).2.2.1 ∈ qWA := qWA_in (List.mem_of_getElem? (i := 267) (by decide +kernel)) rfl
theorem zf_X7_54 : Cond.fieldLink RX7 54 RX7 (TX7 10).2.1 (TX7 10).2.2.1 ∈ qWA := qWA_in (List.mem_of_getElem? (i := 269) (by decide +kernel)) rfl
theorem zf_X7_58 : Cond.fieldLink RX7 58 RX7 (TX7 11).2.1 (TX7 11).2.2.1 ∈ qWA := qWA_in (List.mem_of_getElem? (i := 270) (by decide +kernel)) rfl
theorem zf_X7_61 : Cond.fieldLink RX7 61 RX7 (TX7 12).2.1 (TX7 12).2.2.1 ∈ qWA := qWA_in (List.mem_of_getElem? (i := 271) (by decide +kernel)) rfl
theorem zd_X2 : ∀ j, j < 3 → defaultValue (tyX2 j) = vp_V [.null, .int 0, .int 0] j := by
  intro j hj
  rcases (show j = 0 ∨ j = 1 ∨ j = 2 by omega) with rfl | rfl | rfl <;> rfl
theorem zd_X3 : ∀ j, j < 2 → defaultValue (tyX3 j) = vp_V [.null, .int 0] j := by
  intro j hj
  rcases (show j = 0 ∨ j = 1 by omega) with rfl | rfl <;> rfl
theorem zd_X4 : ∀ j, j < 9 → defaultValue (tyX4 j) = vp_V [.null, .null, .null, .null, .null, .null, .null, .int 0, .int 0] j := by
  intro j hj
  rcases (show j = 0 ∨ j = 1 ∨ j = 2 ∨ j = 3 ∨ j = 4 ∨ j = 5 ∨ j = 6 ∨ j = 7 ∨ j = 8 by omega) with rfl | rfl | rfl | rfl | rfl | rfl | rfl | rfl | rfl <;> rfl
theorem zd_X5 : ∀ j, j < 9 → defaultValue (tyX5 j) = vp_V [.null, .null, .null, .null, .null, .null, .null, .int 0, .int 0] j := by
  intro j hj
  rcases (show j = 0 ∨ j = 1 ∨ j = 2 ∨ j = 3 ∨ j = 4 ∨ j = 5 ∨ j = 6 ∨ j = 7 ∨ j = 8 by omega) with rfl | rfl | rfl | rfl | rfl | rfl | rfl | rfl | rfl <;> rfl
theorem zd_X6 : ∀ j, j < 6 → defaultValue (tyX6 j) = vp_V [.null, .null, .null, .int 0, .int 0, .int 0] j := by
  intro j hj
  rcases (show j = 0 ∨ j = 1 ∨ j = 2 ∨ j = 3 ∨ j = 4 ∨ j = 5 by omega) with rfl | rfl | rfl | rfl | rfl | rfl <;> rfl
theorem zd_X7 : ∀ j, j < 13 → defaultValue (tyX7 j) = vp_V [.null, .null, .null, .null, .null, .null, .null, .null, .int 0, .int 0, .int 0, .int 0, .int 0] j := by
  intro j hj
  rcases (show j = 0 ∨ j = 1 ∨ j = 2 ∨ j = 3 ∨ j = 4 ∨ j = 5 ∨ j = 6 ∨ j = 7 ∨ j = 8 ∨ j = 9 ∨ j = 10 ∨ j = 11 ∨ j = 12 by omega) with rfl | rfl | rfl | rfl | rfl | rfl | rfl | rfl | rfl | rfl | rfl | rfl | rfl <;> rfl
/-! the constructors of History and of the class -/
abbrev zS5 : Type := (Nat → Nat) × (Nat → Int32)
def zlim (u : zS5) : Prop := u.2 0 = 10 ∧ u.2 1 = 10 ∧ u.2 2 = 10
def zps (tf : Nat → ClassId) (ps : List (Nat × zS5)) : va_W := ps.flatMap (fun x => zw5 tf x.1 x.2)
def zar (ps : List (Nat × zS5)) : Nat → Option Nat := fun i => (ps[i]?).map (fun x => x.1)
def zw2 (tf : Nat → ClassId) (h0 : Nat) (u : Nat × List (Nat × zS5)) : va_W := (h0, .inr (0, [.ref u.1, .int 0, .int 0])) :: (u.1, .inl (tf 2, 8, .inr (.inr (.inr (.inr (zar u.2)))))) :: zps tf u.2
abbrev ze2 : va_E := .inr (0, [.null, .int 0, .int 0])
theorem zps_push (tf : Nat → ClassId) (ps : List (Nat × zS5)) (q : Nat) (u : zS5) : zps tf (ps ++ [(q, u)]) = zps tf ps ++ zw5 tf q u := by
  unfold zps
  rw [List.flatMap_append]
  simp
theorem zar_push (ps : List (Nat × zS5)) (q : Nat) (u : zS5) : va_up (zar ps) ps.length (some q) = zar (ps ++ [(q, u)]) := by
  funext i
  unfold va_up zar
  by_cases h : i = ps.length
  · rw [if_pos h, h]
    simp
  · rw [if_neg h]
    by_cases h2 : i < ps.length
    · rw [List.getElem?_append_left h2]
    · rw [List.getElem?_eq_none (by omega), List.getElem?_eq_none (by simp; omega)]
section ZH
variable {p : Program} {l : Launch} {e : Env} {s : State} {m : MethodId} {args : Array Value} {below : List Frame} {meth : Method} {c : Code} {D : va_G} {tf : Nat → ClassId} {A : Nat → Prop} {Q : State → Prop}
set_option maxHeartbeats 800000 in
set_option maxRecDepth 100000 in
theorem zh_loop {cb sb h0 q1 : Nat} (C : zC p s m c cX2_init 2 RX2 D tf) (hA : ∀ q, s.heap.size ≤ q → A q) (fin : ∀ ps : List (Nat × zS5), ps.length = 8 → (∀ x ∈ ps, zlim x.2) → zV p l e (zrm 2 65 680) s m args below meth c D A 2 Q [(1, .int 8), (0, .ref h0)] cb sb 43 [] (zw2 tf h0 (q1, ps))) : ∀ (d n : Nat) (ps : List (Nat × zS5)), n + d = 8 → ps.length = n → (∀ x ∈ ps, zlim x.2) → zV p l e (zrm 2 65 680) s m args below meth c D A 2 Q [(1, .int (nI n)), (0, .ref h0)] (cb + 8 * d) (sb + 84 * d) 15 [] (zw2 tf h0 (q1, ps))
  | 0, n, ps, hn, hl, hps => by
    obtain rfl : n = 8 := by omega
    refine z_iload C (i := 1) (q := 0) dX2_init_15 rfl rfl ?_
    refine z_aload C (i := 0) (q := 1) dX2_init_16 rfl rfl ?_
    refine z_get C (ci := 0) (N := 3) (q0 := 0) (k := 0) ⟨rfl, cl_X2.2.1⟩ rfl (by decide) zf_X2_11 rfl rfl dX2_init_17 ?_
    refine z_alen C 1 2 (v := 8) rfl rfl rfl dX2_init_20 ?_
    refine z_ge_t C 43 dX2_init_21 (by decide) (by decide) ?_
    exact fin ps hl hps
  | d + 1, n, ps, hn, hl, hps => by
    have hge : ¬ (8 : Int32) ≤ nI n := by rw [show (8 : Int32) = nI 8 from rfl, n_le (by omega) (by omega)]; omega
    refine z_iload C (i := 1) (q := 0) dX2_init_15 rfl rfl ?_
    refine z_aload C (i := 0) (q := 1) dX2_init_16 rfl rfl ?_
    refine z_get C (ci := 0) (N := 3) (q0 := 0) (k := 0) ⟨rfl, cl_X2.2.1⟩ rfl (by decide) zf_X2_11 rfl rfl dX2_init_17 ?_
    refine z_alen C 1 2 (v := 8) rfl rfl rfl dX2_init_20 ?_
    refine z_ge_f C 43 dX2_init_21 (by decide) hge ?_
    refine z_aload C (i := 0) (q := 1) dX2_init_24 rfl rfl ?_
    refine z_get C (ci := 0) (N := 3) (q0 := 0) (k := 0) ⟨rfl, cl_X2.2.1⟩ rfl (by decide) zf_X2_11 rfl rfl dX2_init_25 ?_
    refine z_iload C (i := 1) (q := 0) dX2_init_28 rfl rfl ?_
    refine zV.less (cb' := cb + 8 * d + 7 + 1) (sb' := sb + 84 * d + 75 + 9) ?_ (by omega) (by omega)
    refine z_new C hA (ci := 3) (N := 9) ⟨rfl, cl_X5.2.1⟩ tyX5 tyX5_ok zn_X2_9 [.null, .null, .null, .null, .null, .null, .null, .int 0, .int 0] zd_X5 dX2_init_29 (fun q => ?_)
    refine z_dup C dX2_init_32 ?_
    refine z_initN C hA (zc_X5 l D tf) zw_X5 (by decide) (by decide) rfl zk_X2_17 ⟨Nat.le_of_ble_eq_true rfl, Nat.le_of_ble_eq_true rfl⟩ (Nat.le_of_ble_eq_true rfl) dX2_init_33 (fun u hu => ?_)
    have hw : (zw2 tf h0 (q1, ps) ++ zw5 tf q u)[2 + (zps tf ps).length]? = some (q, .inr (3, [.ref (u.1 0), .ref (u.1 1), .ref (u.1 2), .ref (u.1 3), .ref (u.1 4), .ref (u.1 5), .ref (u.1 6), .int 0, .int 0])) := by
      rw [List.getElem?_append_right (by simp [zw2]; omega)]
      have e : 2 + (zps tf ps).length - (zw2 tf h0 (q1, ps)).length = 0 := by simp [zw2]; omega
      rw [e]
      rfl
    refine z_astq C 1 2 (2 + (zps tf ps).length) 3 (n := 8) (r := (RX5, TX5, 9)) (f := zar ps) rfl rfl hw rfl (show ¬ (nI n < 0 ∨ 8 ≤ (nI n).toNatClampNeg) by rw [nI_clamp (by omega)]; intro h; rcases h with h | h; exact n_ge0 (by omega) h; omega) dX2_init_36 ?_
    refine zV.as (ws := zw2 tf h0 (q1, ps ++ [(q, u)])) ?_ ?_
    · rw [nI_clamp (by omega)]
      show (h0, _) :: (q1, _) :: (zps tf ps ++ zw5 tf q u) = (h0, _) :: (q1, _) :: zps tf (ps ++ [(q, u)])
      rw [zps_push, ← zar_push, hl]
    refine z_iinc C (k := 0) (x := nI n) (v := nI (n + 1)) (lv' := [(1, .int (nI (n + 1))), (0, .ref h0)]) dX2_init_37 rfl (by rw [show Int32.ofInt 1 = (1 : Int32) by decide, nI_1]) (by decide) rfl ?_
    refine z_goto C 15 dX2_init_40 (by decide) ?_
    exact zh_loop C hA fin d (n + 1) (ps ++ [(q, u)]) (by omega) (by simp [hl]) (fun x hx => by
      rcases List.mem_append.mp hx with h | h
      · exact hps x h
      · rw [List.mem_singleton.mp h]; exact hu)
end ZH
set_option maxHeartbeats 800000 in
set_option maxRecDepth 100000 in
theorem zc_X2 (l : Launch) (D : va_G) (tf : Nat → ClassId) : zM l yX2_init cX2_init 2 2 65 680 D tf ze2 (fun u : Nat × List (Nat × zS5) => u.2.length = 8 ∧ ∀ x ∈ u.2, zlim x.2) (zw2 tf) := by
  refine zM_of (by decide) rfl (by decide) (fun p e s m below meth c h0 A C hin hA Q hend => ?_)
  have C : zC p s m c cX2_init 2 RX2 D tf := C
  refine z_aload C (i := 0) (q := 0) dX2_init_0 rfl rfl ?_
  refine z_obj C zl_X2 zo_obj ⟨Nat.le_of_ble_eq_true rfl, Nat.le_of_ble_eq_true rfl⟩ (by decide) dX2_init_1 ?_
  refine z_aload C (i := 0) (q := 0) dX2_init_4 rfl rfl ?_
  refine z_bipush C 8 dX2_init_5 (by decide) ?_
  refine z_newq C hA (t0 := 2) (N' := 8) rfl zq_5 (fun h => h.2.2.1) (n_ge0 (t := 8) (by decide)) (nI_clamp (n := 8) (by decide)) (Nat.le_of_ble_eq_true rfl) dX2_init_7 (fun q1 => ?_)
  refine zV.as (ws := [(h0, .inr (0, [.null, .int 0, .int 0])), (q1, .inl (tf 2, 8, .inr (.inr (.inr (.inr (fun _ => none))))))]) rfl ?_
  refine z_putF C (ci := 0) (N := 3) (q0 := 0) (k := 0) ⟨rfl, cl_X2.2.1⟩ tyX2 tyX2_ok nmX2 rfl (by decide) zf_X2_11 rfl rfl hin rfl rfl rfl (Nat.le_of_ble_eq_true rfl) dX2_init_10 ?_
  refine zV.as (ws := zw2 tf h0 (q1, [])) rfl ?_
  refine z_iconst C 0 dX2_init_13 (by decide) ?_
  refine z_istore C (i := 1) (lv' := [(1, .int (nI 0)), (0, .ref h0)]) dX2_init_14 rfl (by decide) rfl ?_
  refine zh_loop (cb := 0) (sb := 0) C hA (fun ps hl hps => ?_) 8 0 [] (by decide) rfl (fun x hx => by cases hx)
  exact z_ret hend (q1, ps) ⟨hl, hps⟩ rfl dX2_init_43
abbrev zS7 : Type := (Nat × zS5) × (Nat × zS5) × (Nat × zS5) × (Nat × (Nat × List (Nat × zS5))) × (Nat × (Nat → Nat)) × (Nat × (Nat → Nat)) × (Nat × (Nat → Nat)) × Nat
def zw7 (tf : Nat → ClassId) (h0 : Nat) (u : zS7) : va_W := (h0, .inr (5, [.ref (u.1.1), .ref (u.2.1.1), .ref (u.2.2.1.1), .ref (u.2.2.2.1.1), .ref (u.2.2.2.2.1.1), .ref (u.2.2.2.2.2.1.1), .ref (u.2.2.2.2.2.2.1.1), .ref (u.2.2.2.2.2.2.2), .int 0, .int 0, .int (-1), .int (-1), .int (46)])) :: (((((((zw5 tf (u.1.1) (u.1.2) ++ zw5 tf (u.2.1.1) (u.2.1.2)) ++ zw5 tf (u.2.2.1.1) (u.2.2.1.2)) ++ zw2 tf (u.2.2.2.1.1) (u.2.2.2.1.2)) ++ zw4 tf (u.2.2.2.2.1.1) (u.2.2.2.2.1.2)) ++ zw6 tf (u.2.2.2.2.2.1.1) (u.2.2.2.2.2.1.2)) ++ zw3 tf (u.2.2.2.2.2.2.1.1) (u.2.2.2.2.2.2.1.2)) ++ [((u.2.2.2.2.2.2.2), .inl (tf 0, 12, .inl (fun _ => 0)))])
abbrev ze7 : va_E := .inr (5, [.null, .null, .null, .null, .null, .null, .null, .null, .int 0, .int 0, .int 0, .int 0, .int 0])
set_option maxHeartbeats 800000 in
set_option maxRecDepth 100000 in
theorem zc_X7 (l : Launch) (D : va_G) (tf : Nat → ClassId) : zM l yX7_init cX7_init 1 3 105 2224 D tf ze7 (fun u : zS7 => zlim u.1.2 ∧ zlim u.2.1.2 ∧ zlim u.2.2.1.2 ∧ (u.2.2.2.1.2.2.length = 8 ∧ ∀ x ∈ u.2.2.2.1.2.2, zlim x.2)) (zw7 tf) := by
  refine zM_of (by decide) rfl (by decide) (fun p e s m below meth c h0 A C hin hA Q hend => ?_)
  have C : zC p s m c cX7_init 1 RX7 D tf := C
  refine z_aload C (i := 0) (q := 0) dX7_init_0 rfl rfl ?_
  refine z_obj C zl_X7 zo_obj ⟨Nat.le_of_ble_eq_true rfl, Nat.le_of_ble_eq_true rfl⟩ (by decide) dX7_init_1 ?_
  refine z_aload C (i := 0) (q := 0) dX7_init_4 rfl rfl ?_
  refine zV.less (cb' := 97 + 7 + 1) (sb' := 2140 + 75 + 9) ?_ (Nat.le_of_ble_eq_true rfl) (Nat.le_of_ble_eq_true rfl)
  refine z_new C hA (ci := 3) (N := 9) ⟨rfl, cl_X5.2.1⟩ tyX5 tyX5_ok zn_X7_9 [.null, .null, .null, .null, .null, .null, .null, .int 0, .int 0] zd_X5 dX7_init_5 (fun p0 => ?_)
  refine z_dup C dX7_init_8 ?_
  refine z_initN C hA (zc_X5 l D tf) zw_X5 (by decide) (by decide) rfl zk_X7_11 ⟨Nat.le_of_ble_eq_true rfl, Nat.le_of_ble_eq_true rfl⟩ (Nat.le_of_ble_eq_true rfl) dX7_init_9 (fun u0 hu0 => ?_)
  refine z_putF C (ci := 5) (N := 13) (q0 := 0) (k := 0) ⟨rfl, cl_X7.2.1⟩ tyX7 tyX7_ok nmX7 (fs := [.null, .null, .null, .null, .null, .null, .null, .null, .int 0, .int 0, .int 0, .int 0, .int 0]) rfl (by decide) zf_X7_12 rfl rfl hin rfl rfl rfl (Nat.le_of_ble_eq_true rfl) dX7_init_12 ?_
  refine zV.as (ws := (h0, .inr (5, [.ref p0, .null, .null, .null, .null, .null, .null, .null, .int 0, .int 0, .int 0, .int 0, .int 0])) :: zw5 tf p0 u0) rfl ?_
  refine z_aload C (i := 0) (q := 0) dX7_init_15 rfl rfl ?_
  refine zV.less (cb' := 89 + 7 + 1) (sb' := 2056 + 75 + 9) ?_ (Nat.le_of_ble_eq_true rfl) (Nat.le_of_ble_eq_true rfl)
  refine z_new C hA (ci := 3) (N := 9) ⟨rfl, cl_X5.2.1⟩ tyX5 tyX5_ok zn_X7_9 [.null, .null, .null, .null, .null, .null, .null, .int 0, .int 0] zd_X5 dX7_init_16 (fun p1 => ?_)
  refine z_dup C dX7_init_19 ?_
  refine z_initN C hA (zc_X5 l D tf) zw_X5 (by decide) (by decide) rfl zk_X7_11 ⟨Nat.le_of_ble_eq_true rfl, Nat.le_of_ble_eq_true rfl⟩ (Nat.le_of_ble_eq_true rfl) dX7_init_20 (fun u1 hu1 => ?_)
  refine z_putF C (ci := 5) (N := 13) (q0 := 0) (k := 1) ⟨rfl, cl_X7.2.1⟩ tyX7 tyX7_ok nmX7 (fs := [.ref p0, .null, .null, .null, .null, .null, .null, .null, .int 0, .int 0, .int 0, .int 0, .int 0]) rfl (by decide) zf_X7_16 rfl rfl hin rfl rfl rfl (Nat.le_of_ble_eq_true rfl) dX7_init_23 ?_
  refine zV.as (ws := (h0, .inr (5, [.ref p0, .ref p1, .null, .null, .null, .null, .null, .null, .int 0, .int 0, .int 0, .int 0, .int 0])) :: (zw5 tf p0 u0 ++ zw5 tf p1 u1)) rfl ?_
  refine z_aload C (i := 0) (q := 0) dX7_init_26 rfl rfl ?_
  refine zV.less (cb' := 81 + 7 + 1) (sb' := 1972 + 75 + 9) ?_ (Nat.le_of_ble_eq_true rfl) (Nat.le_of_ble_eq_true rfl)
  refine z_new C hA (ci := 3) (N := 9) ⟨rfl, cl_X5.2.1⟩ tyX5 tyX5_ok zn_X7_9 [.null, .null, .null, .null, .null, .null, .null, .int 0, .int 0] zd_X5 dX7_init_27 (fun p2 => ?_)
  refine z_dup C dX7_init_30 ?_
  refine z_initN C hA (zc_X5 l D tf) zw_X5 (by decide) (by decide) rfl zk_X7_11 ⟨Nat.le_of_ble_eq_true rfl, Nat.le_of_ble_eq_true rfl⟩ (Nat.le_of_ble_eq_true rfl) dX7_init_31 (fun u2 hu2 => ?_)
  refine z_putF C (ci := 5) (N := 13) (q0 := 0) (k := 2) ⟨rfl, cl_X7.2.1⟩ tyX7 tyX7_ok nmX7 (fs := [.ref p0, .ref p1, .null, .null, .null, .null, .null, .null, .int 0, .int 0, .int 0, .int 0, .int 0]) rfl (by decide) zf_X7_19 rfl rfl hin rfl rfl rfl (Nat.le_of_ble_eq_true rfl) dX7_init_34 ?_
  refine zV.as (ws := (h0, .inr (5, [.ref p0, .ref p1, .ref p2, .null, .null, .null, .null, .null, .int 0, .int 0, .int 0, .int 0, .int 0])) :: ((zw5 tf p0 u0 ++ zw5 tf p1 u1) ++ zw5 tf p2 u2)) rfl ?_
  refine z_aload C (i := 0) (q := 0) dX7_init_37 rfl rfl ?_
  refine zV.less (cb' := 15 + 65 + 1) (sb' := 1289 + 680 + 3) ?_ (Nat.le_of_ble_eq_true rfl) (Nat.le_of_ble_eq_true rfl)
  refine z_new C hA (ci := 0) (N := 3) ⟨rfl, cl_X2.2.1⟩ tyX2 tyX2_ok zn_X7_22 [.null, .int 0, .int 0] zd_X2 dX7_init_38 (fun p3 => ?_)
  refine z_dup C dX7_init_41 ?_
  refine z_initN C hA (zc_X2 l D tf) zw_X2 (by decide) (by decide) rfl zk_X7_24 ⟨Nat.le_of_ble_eq_true rfl, Nat.le_of_ble_eq_true rfl⟩ (Nat.le_of_ble_eq_true rfl) dX7_init_42 (fun u3 hu3 => ?_)
  refine z_putF C (ci := 5) (N := 13) (q0 := 0) (k := 3) ⟨rfl, cl_X7.2.1⟩ tyX7 tyX7_ok nmX7 (fs := [.ref p0, .ref p1, .ref p2, .null, .null, .null, .null, .null, .int 0, .int 0, .int 0, .int 0, .int 0]) rfl (by decide) zf_X7_25 rfl rfl hin rfl rfl rfl (Nat.le_of_ble_eq_true rfl) dX7_init_45 ?_
  refine zV.as (ws := (h0, .inr (5, [.ref p0, .ref p1, .ref p2, .ref p3, .null, .null, .null, .null, .int 0, .int 0, .int 0, .int 0, .int 0])) :: (((zw5 tf p0 u0 ++ zw5 tf p1 u1) ++ zw5 tf p2 u2) ++ zw2 tf p3 u3)) rfl ?_
  refine z_aload C (i := 0) (q := 0) dX7_init_48 rfl rfl ?_
  refine zV.less (cb' := 7 + 7 + 1) (sb' := 794 + 486 + 9) ?_ (Nat.le_of_ble_eq_true rfl) (Nat.le_of_ble_eq_true rfl)
  refine z_new C hA (ci := 2) (N := 9) ⟨rfl, cl_X4.2.1⟩ tyX4 tyX4_ok zn_X7_29 [.null, .null, .null, .null, .null, .null, .null, .int 0, .int 0] zd_X4 dX7_init_49 (fun p4 => ?_)
  refine z_dup C dX7_init_52 ?_
  refine z_initN C hA (zc_X4 l D tf) zw_X4 (by decide) (by decide) rfl zk_X7_31 ⟨Nat.le_of_ble_eq_true rfl, Nat.le_of_ble_eq_true rfl⟩ (Nat.le_of_ble_eq_true rfl) dX7_init_53 (fun u4 hu4 => ?_)
  refine z_putF C (ci := 5) (N := 13) (q0 := 0) (k := 4) ⟨rfl, cl_X7.2.1⟩ tyX7 tyX7_ok nmX7 (fs := [.ref p0, .ref p1, .ref p2, .ref p3, .null, .null, .null, .null, .int 0, .int 0, .int 0, .int 0, .int 0]) rfl (by decide) zf_X7_32 rfl rfl hin rfl rfl rfl (Nat.le_of_ble_eq_true rfl) dX7_init_56 ?_
  refine zV.as (ws := (h0, .inr (5, [.ref p0, .ref p1, .ref p2, .ref p3, .ref p4, .null, .null, .null, .int 0, .int 0, .int 0, .int 0, .int 0])) :: ((((zw5 tf p0 u0 ++ zw5 tf p1 u1) ++ zw5 tf p2 u2) ++ zw2 tf p3 u3) ++ zw4 tf p4 u4)) rfl ?_
  refine z_aload C (i := 0) (q := 0) dX7_init_59 rfl rfl ?_
  refine zV.less (cb' := 3 + 3 + 1) (sb' := 428 + 360 + 6) ?_ (Nat.le_of_ble_eq_true rfl) (Nat.le_of_ble_eq_true rfl)
  refine z_new C hA (ci := 4) (N := 6) ⟨rfl, cl_X6.2.1⟩ tyX6 tyX6_ok zn_X7_36 [.null, .null, .null, .int 0, .int 0, .int 0] zd_X6 dX7_init_60 (fun p5 => ?_)
  refine z_dup C dX7_init_63 ?_
  refine z_initN C hA (zc_X6 l D tf) zw_X6 (by decide) (by decide) rfl zk_X7_38 ⟨Nat.le_of_ble_eq_true rfl, Nat.le_of_ble_eq_true rfl⟩ (Nat.le_of_ble_eq_true rfl) dX7_init_64 (fun u5 hu5 => ?_)
  refine z_putF C (ci := 5) (N := 13) (q0 := 0) (k := 5) ⟨rfl, cl_X7.2.1⟩ tyX7 tyX7_ok nmX7 (fs := [.ref p0, .ref p1, .ref p2, .ref p3, .ref p4, .null, .null, .null, .int 0, .int 0, .int 0, .int 0, .int 0]) rfl (by decide) zf_X7_39 rfl rfl hin rfl rfl rfl (Nat.le_of_ble_eq_true rfl) dX7_init_67 ?_
  refine zV.as (ws := (h0, .inr (5, [.ref p0, .ref p1, .ref p2, .ref p3, .ref p4, .ref p5, .null, .null, .int 0, .int 0, .int 0, .int 0, .int 0])) :: (((((zw5 tf p0 u0 ++ zw5 tf p1 u1) ++ zw5 tf p2 u2) ++ zw2 tf p3 u3) ++ zw4 tf p4 u4) ++ zw6 tf p5 u5)) rfl ?_
  refine z_aload C (i := 0) (q := 0) dX7_init_70 rfl rfl ?_
  refine zV.less (cb' := 1 + 1 + 1) (sb' := 12 + 414 + 2) ?_ (Nat.le_of_ble_eq_true rfl) (Nat.le_of_ble_eq_true rfl)
  refine z_new C hA (ci := 1) (N := 2) ⟨rfl, cl_X3.2.1⟩ tyX3 tyX3_ok zn_X7_43 [.null, .int 0] zd_X3 dX7_init_71 (fun p6 => ?_)
  refine z_dup C dX7_init_74 ?_
  refine z_initN C hA (zc_X3 l D tf) zw_X3 (by decide) (by decide) rfl zk_X7_45 ⟨Nat.le_of_ble_eq_true rfl, Nat.le_of_ble_eq_true rfl⟩ (Nat.le_of_ble_eq_true rfl) dX7_init_75 (fun u6 hu6 => ?_)
  refine z_putF C (ci := 5) (N := 13) (q0 := 0) (k := 6) ⟨rfl, cl_X7.2.1⟩ tyX7 tyX7_ok nmX7 (fs := [.ref p0, .ref p1, .ref p2, .ref p3, .ref p4, .ref p5, .null, .null, .int 0, .int 0, .int 0, .int 0, .int 0]) rfl (by decide) zf_X7_46 rfl rfl hin rfl rfl rfl (Nat.le_of_ble_eq_true rfl) dX7_init_78 ?_
  refine zV.as (ws := (h0, .inr (5, [.ref p0, .ref p1, .ref p2, .ref p3, .ref p4, .ref p5, .ref p6, .null, .int 0, .int 0, .int 0, .int 0, .int 0])) :: ((((((zw5 tf p0 u0 ++ zw5 tf p1 u1) ++ zw5 tf p2 u2) ++ zw2 tf p3 u3) ++ zw4 tf p4 u4) ++ zw6 tf p5 u5) ++ zw3 tf p6 u6)) rfl ?_
  refine z_aload C (i := 0) (q := 0) dX7_init_81 rfl rfl ?_
  refine z_bipush C 12 dX7_init_82 (by decide) ?_
  refine z_newa C hA (atype := .int) (ty := .int) (t0 := 0) (N' := 12) (a0 := (12, .inl (fun _ => 0))) rfl (fun _ h => by cases h) rfl za_int (fun _ => rfl) (n_ge0 (t := 12) (by decide)) (nI_clamp (n := 12) (by decide)) (Nat.le_of_ble_eq_true rfl) dX7_init_84 (fun p7 => ?_)
  refine z_putF C (ci := 5) (N := 13) (q0 := 0) (k := 7) ⟨rfl, cl_X7.2.1⟩ tyX7 tyX7_ok nmX7 (fs := [.ref p0, .ref p1, .ref p2, .ref p3, .ref p4, .ref p5, .ref p6, .null, .int 0, .int 0, .int 0, .int 0, .int 0]) rfl (by decide) zf_X7_50 rfl rfl hin rfl rfl rfl (Nat.le_of_ble_eq_true rfl) dX7_init_86 ?_
  refine zV.as (ws := (h0, .inr (5, [.ref p0, .ref p1, .ref p2, .ref p3, .ref p4, .ref p5, .ref p6, .ref p7, .int 0, .int 0, .int 0, .int 0, .int 0])) :: (((((((zw5 tf p0 u0 ++ zw5 tf p1 u1) ++ zw5 tf p2 u2) ++ zw2 tf p3 u3) ++ zw4 tf p4 u4) ++ zw6 tf p5 u5) ++ zw3 tf p6 u6) ++ [(p7, .inl (tf 0, 12, .inl (fun _ => 0)))])) rfl ?_
  refine z_aload C (i := 0) (q := 0) dX7_init_89 rfl rfl ?_
  refine z_iconst C (-1) dX7_init_90 (by decide) ?_
  refine z_put C (ci := 5) (N := 13) (q0 := 0) (k := 10) ⟨rfl, cl_X7.2.1⟩ tyX7 tyX7_ok nmX7 (fs := [.ref p0, .ref p1, .ref p2, .ref p3, .ref p4, .ref p5, .ref p6, .ref p7, .int 0, .int 0, .int 0, .int 0, .int 0]) rfl (by decide) zf_X7_54 rfl rfl rfl rfl rfl (Nat.le_of_ble_eq_true rfl) dX7_init_91 ?_
  refine zV.as (ws := (h0, .inr (5, [.ref p0, .ref p1, .ref p2, .ref p3, .ref p4, .ref p5, .ref p6, .ref p7, .int 0, .int 0, .int (-1), .int 0, .int 0])) :: (((((((zw5 tf p0 u0 ++ zw5 tf p1 u1) ++ zw5 tf p2 u2) ++ zw2 tf p3 u3) ++ zw4 tf p4 u4) ++ zw6 tf p5 u5) ++ zw3 tf p6 u6) ++ [(p7, .inl (tf 0, 12, .inl (fun _ => 0)))])) rfl ?_
  refine z_aload C (i := 0) (q := 0) dX7_init_94 rfl rfl ?_
  refine z_iconst C (-1) dX7_init_95 (by decide) ?_
  refine z_put C (ci := 5) (N := 13) (q0 := 0) (k := 11) ⟨rfl, cl_X7.2.1⟩ tyX7 tyX7_ok nmX7 (fs := [.ref p0, .ref p1, .ref p2, .ref p3, .ref p4, .ref p5, .ref p6, .ref p7, .int 0, .int 0, .int (-1), .int 0, .int 0]) rfl (by decide) zf_X7_58 rfl rfl rfl rfl rfl (Nat.le_of_ble_eq_true rfl) dX7_init_96 ?_
  refine zV.as (ws := (h0, .inr (5, [.ref p0, .ref p1, .ref p2, .ref p3, .ref p4, .ref p5, .ref p6, .ref p7, .int 0, .int 0, .int (-1), .int (-1), .int 0])) :: (((((((zw5 tf p0 u0 ++ zw5 tf p1 u1) ++ zw5 tf p2 u2) ++ zw2 tf p3 u3) ++ zw4 tf p4 u4) ++ zw6 tf p5 u5) ++ zw3 tf p6 u6) ++ [(p7, .inl (tf 0, 12, .inl (fun _ => 0)))])) rfl ?_
  refine z_aload C (i := 0) (q := 0) dX7_init_99 rfl rfl ?_
  refine z_bipush C (46) dX7_init_100 (by decide) ?_
  refine z_put C (ci := 5) (N := 13) (q0 := 0) (k := 12) ⟨rfl, cl_X7.2.1⟩ tyX7 tyX7_ok nmX7 (fs := [.ref p0, .ref p1, .ref p2, .ref p3, .ref p4, .ref p5, .ref p6, .ref p7, .int 0, .int 0, .int (-1), .int (-1), .int 0]) rfl (by decide) zf_X7_61 rfl rfl rfl rfl rfl (Nat.le_of_ble_eq_true rfl) dX7_init_102 ?_
  refine zV.as (ws := (h0, .inr (5, [.ref p0, .ref p1, .ref p2, .ref p3, .ref p4, .ref p5, .ref p6, .ref p7, .int 0, .int 0, .int (-1), .int (-1), .int (46)])) :: (((((((zw5 tf p0 u0 ++ zw5 tf p1 u1) ++ zw5 tf p2 u2) ++ zw2 tf p3 u3) ++ zw4 tf p4 u4) ++ zw6 tf p5 u5) ++ zw3 tf p6 u6) ++ [(p7, .inl (tf 0, 12, .inl (fun _ => 0)))])) rfl ?_
  exact z_ret hend ((p0, u0), (p1, u1), (p2, u2), (p3, u3), (p4, u4), (p5, u5), (p6, u6), p7) ⟨hu0, hu1, hu2, hu3⟩ rfl dX7_init_105
