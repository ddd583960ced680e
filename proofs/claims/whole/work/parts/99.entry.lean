/-! the start: what the Statement gives of it (printed by wip/whole/gen/mk99.py) -/
def zfl : List Cond := flatC (Jvm.Cond.and given_1 narrow_1)
def znm : List String := ["TASK", "DROP", "LINK", "UNLINK", "LIMIT", "RESIZE", "DELAY", "MARK"]
def zct (i : Nat) : Term := .static RX1 (znm.getD i "") "LTaskLeveller$Command;"
def zsk : List (String × Nat) := [(RX1, 52), (RX1, 58), (RX1, 61), (RX1, 64), (RX1, 67), (RX1, 70), (RX1, 73), (RX1, 76), (RX8, 218)]
def zst (i : Nat) : Term := .string (zsk.getD i ("", 0)).1 (zsk.getD i ("", 0)).2
theorem zg_ex : ∀ i : Fin 8, zfl[[35, 38, 42, 47, 53, 60, 68, 77].getD i 0]? = some (Cond.exactly (zct i) RX1) := by decide +kernel
theorem zg_or : ∀ i : Fin 8, zfl[[36, 39, 43, 48, 54, 61, 69, 78].getD i 0]? = some (Cond.eq (.field (zct i) "java/lang/Enum" "ordinal" "I") (.int (nI i))) := by decide +kernel
theorem zg_fo : ∀ i : Fin 8, zfl[[37, 40, 44, 49, 55, 62, 70, 79].getD i 0]? = some (Cond.eq (.field (zct i) RX1 "form" "Ljava/lang/String;") (zst i)) := by decide +kernel
theorem zg_cm : zfl[8]? = some (Cond.arrayOf (.static RX7 "COMMANDS" "[LTaskLeveller$Command;") (.object RX1)) := by decide +kernel
theorem zg_cl : zfl[9]? = some (Cond.eq (.length (.static RX7 "COMMANDS" "[LTaskLeveller$Command;")) (.int (Int32.ofNat 8))) := by decide +kernel
theorem zg_ce : ∀ i : Fin 8, zfl[11 + (i : Nat)]? = some (Cond.eq (.elem (.static RX7 "COMMANDS" "[LTaskLeveller$Command;") (.int (Int32.ofNat i))) (zct i)) := by decide +kernel
theorem zg_sm : zfl[25]? = some (Cond.arrayOf (.static RX0 "$SwitchMap$TaskLeveller$Command" "[I") .int) := by decide +kernel
theorem zg_sl : zfl[26]? = some (Cond.eq (.length (.static RX0 "$SwitchMap$TaskLeveller$Command" "[I")) (.int (Int32.ofNat 8))) := by decide +kernel
theorem zg_se : ∀ i : Fin 8, zfl[27 + (i : Nat)]? = some (Cond.eq (.elem (.static RX0 "$SwitchMap$TaskLeveller$Command" "[I") (.int (Int32.ofNat i))) (.int (qkm i))) := by decide +kernel
theorem zg_cp : zfl[19]? = some (Cond.eq (.static "java/lang/String" "COMPACT_STRINGS" "Z") (.int 1)) := by decide +kernel
theorem zg_si : zfl[20]? = some (Cond.isRef (.static "jdk/internal/util/Preconditions" "SIOOBE_FORMATTER" "Ljava/util/function/BiFunction;")) := by decide +kernel
theorem zg_us : zfl[4]? = some (Cond.isRef (.static Bundle.tN "UNASSIGNED_STACK" Bundle.steD)) := by decide +kernel
theorem zg_sp : zfl[5]? = some (Cond.isRef (.static Bundle.tN "SUPPRESSED_SENTINEL" Bundle.listD)) := by decide +kernel
def zsp (i : Nat) : Nat := [774, 790, 800, 812, 826, 839, 853, 866, 725].getD i 0
theorem zg_s0 : ∀ i : Fin 9, zfl[zsp i]? = some (Cond.exactly (zst i) "java/lang/String") ∧ zfl[zsp i + 1]? = some (Cond.eq (.field (zst i) "java/lang/String" "coder" "B") (.int 0)) ∧ zfl[zsp i + 2]? = some (Cond.arrayOf (.field (zst i) "java/lang/String" "value" "[B") .byte) ∧ zfl[zsp i + 3]? = some (Cond.eq (.length (.field (zst i) "java/lang/String" "value" "[B")) (.int (Int32.ofNat (qsl i)))) := by decide +kernel
theorem zg_s1 : ∀ i : Fin 9, ∀ j : Fin 45, (j : Nat) < qsl i → zfl[zsp i + 4 + (j : Nat)]? = some (Cond.eq (.elem (.field (zst i) "java/lang/String" "value" "[B") (.int (Int32.ofNat j))) (.int (qsc i j))) := by decide +kernel
theorem zg_sn : ∀ i : Fin 9, qsl i ≤ 45 := by decide +kernel
theorem zg_tx : ∀ q ∈ qthr, Cond.exactly (.string RX7 q.1) "java/lang/String" ∈ zfl := by decide +kernel
theorem zg_tr : ∀ q ∈ qthr, Cond.stringRef RX7 q.1 q.2 ∈ lw_tbl := by decide +kernel
theorem zg_nc : ∀ q ∈ qncs, Cond.not (.castable q.1 q.2) ∈ zfl := by decide +kernel
theorem zg_nm : Cond.stringRef RX8 218 "task drop link unlink limit resize delay mark" ∈ lw_tbl := List.mem_of_getElem? (i := 1742) (by decide +kernel)
theorem zs_cm : Cond.laysStatic RX7 "COMMANDS" "[LTaskLeveller$Command;" ∈ lw_tbl := List.mem_of_getElem? (i := 1144) (by decide +kernel)
theorem zs_sm : Cond.laysStatic RX0 "$SwitchMap$TaskLeveller$Command" "[I" ∈ lw_tbl := List.mem_of_getElem? (i := 1228) (by decide +kernel)
theorem zs_cp : Cond.laysStatic "java/lang/String" "COMPACT_STRINGS" "Z" ∈ lw_tbl := List.mem_of_getElem? (i := 1158) (by decide +kernel)
theorem zs_si : Cond.laysStatic "jdk/internal/util/Preconditions" "SIOOBE_FORMATTER" "Ljava/util/function/BiFunction;" ∈ lw_tbl := List.mem_of_getElem? (i := 1174) (by decide +kernel)
theorem zs_us : Cond.laysStatic Bundle.tN "UNASSIGNED_STACK" Bundle.steD ∈ lw_tbl := List.mem_of_getElem? (i := 566) (by decide +kernel)
theorem zs_sp : Cond.laysStatic Bundle.tN "SUPPRESSED_SENTINEL" Bundle.listD ∈ lw_tbl := List.mem_of_getElem? (i := 568) (by decide +kernel)
theorem zi_7 : Cond.initialized RX7 ∈ lw_tbl := List.mem_of_getElem? (i := 107) (by decide +kernel)
theorem zi_0 : Cond.initialized RX0 ∈ lw_tbl := List.mem_of_getElem? (i := 130) (by decide +kernel)
theorem zi_st : Cond.initialized "java/lang/String" ∈ lw_tbl := List.mem_of_getElem? (i := 123) (by decide +kernel)
theorem zi_pc : Cond.initialized "jdk/internal/util/Preconditions" ∈ lw_tbl := List.mem_of_getElem? (i := 128) (by decide +kernel)
theorem zi_th : Cond.initialized Bundle.tN ∈ lw_tbl := List.mem_of_getElem? (i := 114) (by decide +kernel)
theorem qok_str {own tx : String} {k b : Nat} {s : State} (h : (Cond.stringRef own k tx).before #[Value.ref b] s = true) : (Cond.stringRef own k tx).before #[] s = true := h
theorem z_evS {own : String} {k b : Nat} {s : State} : (Term.string own k).eval #[Value.ref b] s none [] s = (Term.string own k).eval #[] s none [] s := rfl
section ZS
variable {s : State} {b : Nat}
/-- the constants of a run -/
theorem z_consts (h : (Jvm.Cond.and given_1 narrow_1).before #[Value.ref b] s = true) (ht : ∀ w ∈ lw_tbl, w.before #[Value.ref b] s = true) : ∃ (aC aS aB : Nat → Nat) (a41 a43 : Nat), let A : Nat → Prop := fun q => s.heap.size ≤ q
    (∀ i : Nat, i < 8 → va_O RX1 (aC i) A s s.heap) ∧ va_Ef 8 RX1 "form" "Ljava/lang/String;" (fun i => .ref (aS i)) aC A s s.heap ∧ va_Ef 8 "java/lang/Enum" "ordinal" "I" (fun i => .int (nI i)) aC A s s.heap ∧
    va_Z RX7 "COMMANDS" "[LTaskLeveller$Command;" (.ref a41) A s s.heap ∧ va_T (.object RX1) a41 8 (fun j => .ref (aC j)) A s s.heap ∧
    (∀ i : Nat, i < 9 → va_O "java/lang/String" (aS i) A s s.heap ∧ va_OF "java/lang/String" "coder" "B" (.int 0) (aS i) A s s.heap ∧ va_OF "java/lang/String" "value" "[B" (.ref (aB i)) (aS i) A s s.heap ∧ va_T .byte (aB i) (qsl i) (fun j => .int (qsc i j)) A s s.heap) ∧
    va_Z RX0 "$SwitchMap$TaskLeveller$Command" "[I" (.ref a43) A s s.heap ∧ va_T .int a43 8 (fun j => .int (qkm j)) A s s.heap ∧ va_Z "java/lang/String" "COMPACT_STRINGS" "Z" (.int 1) A s s.heap ∧ va_Zq "jdk/internal/util/Preconditions" "SIOOBE_FORMATTER" "Ljava/util/function/BiFunction;" A s s.heap ∧
    vx_Zq Bundle.tN "UNASSIGNED_STACK" Bundle.steD A s s.heap ∧ vx_Zq Bundle.tN "SUPPRESSED_SENTINEL" Bundle.listD A s s.heap ∧
    vk_R RX8 218 "task drop link unlink limit resize delay mark" (aS 8) s ∧ (∀ q ∈ qthr, ∃ a : Nat, vk_R RX7 q.1 q.2 a s) ∧ ∀ q ∈ qncs, va_Nc q.1 q.2 s := by
  have hs : ∀ w ∈ zfl, w.before #[Value.ref b] s = true := flat_of_before _ h
  have hg : ∀ {n : Nat} {w : Cond}, zfl[n]? = some w → w.before #[Value.ref b] s = true := fun e => hs _ (List.mem_of_getElem? e)
  have hA : ∀ a : Nat, a < s.heap.size → ¬ s.heap.size ≤ a := fun a h => by omega
  have e1 : ∀ i : Nat, ∃ a : Nat, i < 8 → (zct i).eval #[Value.ref b] s none [] s = some (.ref a) := by
    intro i
    by_cases hi : i < 8
    · obtain ⟨a, c, cell, k, q1, -⟩ := Cond.exactly_spec (hg (zg_ex ⟨i, hi⟩))
      exact ⟨a, fun _ => q1⟩
    · exact ⟨0, fun h => absurd h hi⟩
  obtain ⟨aC, hC⟩ := Classical.axiomOfChoice e1
  have e2 : ∀ i : Nat, ∃ q : Nat × Nat, i < 9 → (zst i).eval #[Value.ref b] s none [] s = some (.ref q.1) ∧ va_O "java/lang/String" q.1 (fun q => s.heap.size ≤ q) s s.heap ∧ va_OF "java/lang/String" "coder" "B" (.int 0) q.1 (fun q => s.heap.size ≤ q) s s.heap ∧ va_OF "java/lang/String" "value" "[B" (.ref q.2) q.1 (fun q => s.heap.size ≤ q) s s.heap ∧ va_T .byte q.2 (qsl i) (fun j => .int (qsc i j)) (fun q => s.heap.size ≤ q) s s.heap := by
    intro i
    by_cases hi : i < 9
    · obtain ⟨g1, g2, g3, g4⟩ := zg_s0 ⟨i, hi⟩
      have hl : qsl i ≤ 45 := zg_sn ⟨i, hi⟩
      obtain ⟨a, c, cA, kA, q1, -⟩ := Cond.exactly_spec (hg g1)
      obtain ⟨t, h1, h2⟩ := va_Tof (f := fun j => .int (qsc i j)) (A := fun q => s.heap.size ≤ q) (N := qsl i) (by omega) (hg g3) (va_eqt (hg g4)) (fun j hj => va_eqt (hg (zg_s1 ⟨i, hi⟩ ⟨j, by omega⟩ hj))) hA
      exact ⟨(a, t), fun _ => ⟨q1, va_Oof (hg g1) q1 hA, vk_OFof q1 (va_eqt (hg g2)) hA, vk_OFof q1 h1 hA, h2⟩⟩
    · exact ⟨(0, 0), fun h => absurd h hi⟩
  obtain ⟨aq, hq⟩ := Classical.axiomOfChoice e2
  obtain ⟨t41, h41, T41⟩ := va_Tof (N := 8) (f := fun j => .ref (aC j)) (A := fun q => s.heap.size ≤ q) (by decide) (hg zg_cm) (va_eqt (hg zg_cl)) (fun j hj => va_eqv (hg (zg_ce ⟨j, hj⟩)) (hC j hj)) hA
  obtain ⟨t43, h43, T43⟩ := va_Tof (N := 8) (f := fun j => .int (qkm j)) (A := fun q => s.heap.size ≤ q) (by decide) (hg zg_sm) (va_eqt (hg zg_sl)) (fun j hj => va_eqt (hg (zg_se ⟨j, hj⟩))) hA
  refine ⟨aC, fun i => (aq i).1, fun i => (aq i).2, t41, t43, fun i hi => va_Oof (hg (zg_ex ⟨i, hi⟩)) (hC i hi) hA, fun i hi => vk_OFof (hC i hi) (va_eqv (hg (zg_fo ⟨i, hi⟩)) (hq i (by omega)).1) hA, fun i hi => vk_OFof (hC i hi) (va_eqt (hg (zg_or ⟨i, hi⟩))) hA, va_Zref (ht _ zs_cm) (ht _ zi_7) h41 hA, T41, fun i hi => (hq i hi).2, va_Zref (ht _ zs_sm) (ht _ zi_0) h43 hA, T43, va_Zof (ht _ zs_cp) (ht _ zi_st) (va_eqt (hg zg_cp)) hA, va_Zqof (ht _ zs_si) (ht _ zi_pc) (hg zg_si) hA, vx_Zqof (ht _ zs_us) (ht _ zi_th) (hg zg_us) hA, vx_Zqof (ht _ zs_sp) (ht _ zi_th) (hg zg_sp) hA, ?_, fun q hq2 => ?_, fun q hq2 => va_Nc.of (hs _ (zg_nc q hq2))⟩
  · have e := (hq 8 (by decide)).1
    exact ⟨qok_str (ht _ zg_nm), by rw [← z_evS]; exact e⟩
  · obtain ⟨a, c, cA, kA, q1, -⟩ := Cond.exactly_spec (hs _ (zg_tx q hq2))
    exact ⟨a, qok_str (ht _ (zg_tr q hq2)), by rw [← z_evS]; exact q1⟩
end ZS
