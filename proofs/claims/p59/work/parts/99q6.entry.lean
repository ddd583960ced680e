/-! the start: what the Statement gives of it (printed by wip/p59/gen/mkend.py) -/
def zfl : List Cond := flatC (Jvm.Cond.and given_1 narrow_1)
def zst (i : Nat) : Term := .string RL ([222, 231, 281, 283, 285, 287, 289, 291].getD i 0)
def zsp (i : Nat) : Nat := [821, 825, 858, 863, 868, 873, 878, 883].getD i 0
theorem zg_s0 : ∀ i : Fin 8, zfl[zsp i]? = some (Cond.exactly (zst i) "java/lang/String") ∧ zfl[zsp i + 1]? = some (Cond.eq (.field (zst i) "java/lang/String" "coder" "B") (.int 0)) ∧ zfl[zsp i + 2]? = some (Cond.arrayOf (.field (zst i) "java/lang/String" "value" "[B") .byte) ∧ zfl[zsp i + 3]? = some (Cond.eq (.length (.field (zst i) "java/lang/String" "value" "[B")) (.int (Int32.ofNat (qsl i)))) := by decide +kernel
theorem zg_s1 : ∀ i : Fin 8, ∀ j : Fin 1, (j : Nat) < qsl i → zfl[zsp i + 4 + (j : Nat)]? = some (Cond.eq (.elem (.field (zst i) "java/lang/String" "value" "[B") (.int (Int32.ofNat j))) (.int (qsc i j))) := by decide +kernel
theorem zg_sn : ∀ i : Fin 8, qsl i ≤ 1 := by decide +kernel
theorem zg_sr : ∀ i : Fin 8, ∃ q ∈ qlst, q.2.2 = (i : Nat) := by decide +kernel
def zdg (i : Nat) : String := if i = 0 then "DigitOnes" else "DigitTens"
def zdp (i : Nat) : Nat := if i = 0 then 36 else 139
theorem zg_d0 : ∀ i : Fin 2, zfl[zdp i]? = some (Cond.arrayOf (.static "java/lang/Integer" (zdg i) "[B") .byte) ∧ zfl[zdp i + 1]? = some (Cond.eq (.length (.static "java/lang/Integer" (zdg i) "[B")) (.int (Int32.ofNat 100))) := by decide +kernel
theorem zg_d1 : ∀ i : Fin 2, ∀ j : Fin 100, zfl[zdp i + 2 + (j : Nat)]? = some (Cond.eq (.elem (.static "java/lang/Integer" (zdg i) "[B") (.int (Int32.ofNat j))) (.int (qdig i j))) := by decide +kernel
theorem zg_cp : zfl[19]? = some (Cond.eq (.static "java/lang/String" "COMPACT_STRINGS" "Z") (.int 1)) := by decide +kernel
theorem zg_si : zfl[20]? = some (Cond.isRef (.static "jdk/internal/util/Preconditions" "SIOOBE_FORMATTER" "Ljava/util/function/BiFunction;")) := by decide +kernel
theorem zg_us : zfl[4]? = some (Cond.isRef (.static Bundle.tN "UNASSIGNED_STACK" Bundle.steD)) := by decide +kernel
theorem zg_sp : zfl[5]? = some (Cond.isRef (.static Bundle.tN "SUPPRESSED_SENTINEL" Bundle.listD)) := by decide +kernel
theorem zg_tx : ∀ q ∈ qthr, Cond.exactly (.string RX7 q.1) "java/lang/String" ∈ zfl := by decide +kernel
theorem zg_tr : ∀ q ∈ qthr, Cond.stringRef RX7 q.1 q.2 ∈ lw_tbl := by decide +kernel
theorem zg_lr : ∀ q ∈ qlst, Cond.stringRef RL q.1 q.2.1 ∈ lw_tbl ∧ q.2.2 < 8 ∧ zst q.2.2 = .string RL q.1 := by decide +kernel
theorem zg_nc : ∀ q ∈ qncs, Cond.not (.castable q.1 q.2) ∈ zfl := by decide +kernel
theorem zs_cp : Cond.laysStatic "java/lang/String" "COMPACT_STRINGS" "Z" ∈ lw_tbl := List.mem_of_getElem? (i := 698) (by decide +kernel)
theorem zs_si : Cond.laysStatic "jdk/internal/util/Preconditions" "SIOOBE_FORMATTER" "Ljava/util/function/BiFunction;" ∈ lw_tbl := List.mem_of_getElem? (i := 714) (by decide +kernel)
theorem zs_us : Cond.laysStatic Bundle.tN "UNASSIGNED_STACK" Bundle.steD ∈ lw_tbl := List.mem_of_getElem? (i := 331) (by decide +kernel)
theorem zs_sp : Cond.laysStatic Bundle.tN "SUPPRESSED_SENTINEL" Bundle.listD ∈ lw_tbl := List.mem_of_getElem? (i := 333) (by decide +kernel)
theorem zs_d0 : Cond.laysStatic "java/lang/Integer" "DigitOnes" "[B" ∈ lw_tbl := List.mem_of_getElem? (i := 1215) (by decide +kernel)
theorem zs_d1 : Cond.laysStatic "java/lang/Integer" "DigitTens" "[B" ∈ lw_tbl := List.mem_of_getElem? (i := 1217) (by decide +kernel)
theorem zi_st : Cond.initialized "java/lang/String" ∈ lw_tbl := List.mem_of_getElem? (i := 74) (by decide +kernel)
theorem zi_pc : Cond.initialized "jdk/internal/util/Preconditions" ∈ lw_tbl := List.mem_of_getElem? (i := 80) (by decide +kernel)
theorem zi_th : Cond.initialized Bundle.tN ∈ lw_tbl := List.mem_of_getElem? (i := 69) (by decide +kernel)
theorem zi_in : Cond.initialized "java/lang/Integer" ∈ lw_tbl := List.mem_of_getElem? (i := 85) (by decide +kernel)
theorem qok_str {own tx : String} {k b : Nat} {s : State} (h : (Cond.stringRef own k tx).before #[Value.ref b] s = true) : (Cond.stringRef own k tx).before #[] s = true := h
theorem z_evS {own : String} {k b : Nat} {s : State} : (Term.string own k).eval #[Value.ref b] s none [] s = (Term.string own k).eval #[] s none [] s := rfl
section ZS
variable {s : State} {b : Nat}
/-- the constants of a run -/
theorem z_consts (h : (Jvm.Cond.and given_1 narrow_1).before #[Value.ref b] s = true) (ht : ∀ w ∈ lw_tbl, w.before #[Value.ref b] s = true) : ∃ (aS aB aD : Nat → Nat), let A : Nat → Prop := fun q => s.heap.size ≤ q
    (∀ i : Nat, i < 8 → va_O "java/lang/String" (aS i) A s s.heap ∧ va_OF "java/lang/String" "coder" "B" (.int 0) (aS i) A s s.heap ∧ va_OF "java/lang/String" "value" "[B" (.ref (aB i)) (aS i) A s s.heap ∧ va_T .byte (aB i) (qsl i) (fun j => .int (qsc i j)) A s s.heap) ∧
    (va_Z "java/lang/Integer" "DigitOnes" "[B" (.ref (aD 0)) A s s.heap ∧ va_Z "java/lang/Integer" "DigitTens" "[B" (.ref (aD 1)) A s s.heap ∧ ∀ i : Nat, i < 2 → va_T .byte (aD i) 100 (fun j => .int (qdig i j)) A s s.heap) ∧
    (va_Z "java/lang/String" "COMPACT_STRINGS" "Z" (.int 1) A s s.heap ∧ va_Zq "jdk/internal/util/Preconditions" "SIOOBE_FORMATTER" "Ljava/util/function/BiFunction;" A s s.heap) ∧
    (vx_Zq Bundle.tN "UNASSIGNED_STACK" Bundle.steD A s s.heap ∧ vx_Zq Bundle.tN "SUPPRESSED_SENTINEL" Bundle.listD A s s.heap) ∧
    (∀ q ∈ qlst, vk_R RL q.1 q.2.1 (aS q.2.2) s) ∧ (∀ q ∈ qthr, ∃ a : Nat, vk_R RX7 q.1 q.2 a s) ∧ ∀ q ∈ qncs, va_Nc q.1 q.2 s := by
  have hs : ∀ w ∈ zfl, w.before #[Value.ref b] s = true := flat_of_before _ h
  have hg : ∀ {n : Nat} {w : Cond}, zfl[n]? = some w → w.before #[Value.ref b] s = true := fun e => hs _ (List.mem_of_getElem? e)
  have hA : ∀ a : Nat, a < s.heap.size → ¬ s.heap.size ≤ a := fun a h => by omega
  have e2 : ∀ i : Nat, ∃ q : Nat × Nat, i < 8 → (zst i).eval #[Value.ref b] s none [] s = some (.ref q.1) ∧ va_O "java/lang/String" q.1 (fun q => s.heap.size ≤ q) s s.heap ∧ va_OF "java/lang/String" "coder" "B" (.int 0) q.1 (fun q => s.heap.size ≤ q) s s.heap ∧ va_OF "java/lang/String" "value" "[B" (.ref q.2) q.1 (fun q => s.heap.size ≤ q) s s.heap ∧ va_T .byte q.2 (qsl i) (fun j => .int (qsc i j)) (fun q => s.heap.size ≤ q) s s.heap := by
    intro i
    by_cases hi : i < 8
    · obtain ⟨g1, g2, g3, g4⟩ := zg_s0 ⟨i, hi⟩
      have hl : qsl i ≤ 1 := zg_sn ⟨i, hi⟩
      obtain ⟨a, c, cA, kA, q1, -⟩ := Cond.exactly_spec (hg g1)
      obtain ⟨t, h1, h2⟩ := va_Tof (f := fun j => .int (qsc i j)) (A := fun q => s.heap.size ≤ q) (N := qsl i) (by omega) (hg g3) (va_eqt (hg g4)) (fun j hj => va_eqt (hg (zg_s1 ⟨i, hi⟩ ⟨j, by omega⟩ hj))) hA
      exact ⟨(a, t), fun _ => ⟨q1, va_Oof (hg g1) q1 hA, vk_OFof q1 (va_eqt (hg g2)) hA, vk_OFof q1 h1 hA, h2⟩⟩
    · exact ⟨(0, 0), fun h => absurd h hi⟩
  obtain ⟨aq, hq⟩ := Classical.axiomOfChoice e2
  have e3 : ∀ i : Nat, ∃ t : Nat, i < 2 → (Term.static "java/lang/Integer" (zdg i) "[B").eval #[Value.ref b] s none [] s = some (.ref t) ∧ va_T .byte t 100 (fun j => .int (qdig i j)) (fun q => s.heap.size ≤ q) s s.heap := by
    intro i
    by_cases hi : i < 2
    · obtain ⟨g1, g2⟩ := zg_d0 ⟨i, hi⟩
      obtain ⟨t, h1, h2⟩ := va_Tof (f := fun j => .int (qdig i j)) (A := fun q => s.heap.size ≤ q) (N := 100) (by decide) (hg g1) (va_eqt (hg g2)) (fun j hj => va_eqt (hg (zg_d1 ⟨i, hi⟩ ⟨j, hj⟩))) hA
      exact ⟨t, fun _ => ⟨h1, h2⟩⟩
    · exact ⟨0, fun h => absurd h hi⟩
  obtain ⟨aD, hD⟩ := Classical.axiomOfChoice e3
  refine ⟨fun i => (aq i).1, fun i => (aq i).2, aD, fun i hi => (hq i hi).2, ⟨va_Zref (ht _ zs_d0) (ht _ zi_in) (hD 0 (by decide)).1 hA, va_Zref (ht _ zs_d1) (ht _ zi_in) (hD 1 (by decide)).1 hA, fun i hi => (hD i hi).2⟩, ⟨va_Zof (ht _ zs_cp) (ht _ zi_st) (va_eqt (hg zg_cp)) hA, va_Zqof (ht _ zs_si) (ht _ zi_pc) (hg zg_si) hA⟩, ⟨vx_Zqof (ht _ zs_us) (ht _ zi_th) (hg zg_us) hA, vx_Zqof (ht _ zs_sp) (ht _ zi_th) (hg zg_sp) hA⟩, fun q hq2 => ?_, fun q hq2 => ?_, fun q hq2 => va_Nc.of (hs _ (zg_nc q hq2))⟩
  · obtain ⟨g1, g2, g3⟩ := zg_lr q hq2
    have e := (hq q.2.2 g2).1
    rw [g3, z_evS] at e
    exact ⟨qok_str (ht _ g1), e⟩
  · obtain ⟨a, c, cA, kA, q1, -⟩ := Cond.exactly_spec (hs _ (zg_tx q hq2))
    exact ⟨a, qok_str (ht _ (zg_tr q hq2)), by rw [← z_evS]; exact q1⟩
end ZS
