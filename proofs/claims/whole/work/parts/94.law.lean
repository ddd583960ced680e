/-! the law's loop, step by step (printed by wip/whole/gen/mklaw2.py) -/
theorem qsw_P {P : Option qO → Prop} {x : Int32} {od : Option qO} : ∀ (os : List (Option qO)) (k : Int), (∀ o ∈ os, P o) → P od → P (qsw x k os od)
  | [], _, _, hd => hd
  | o1 :: t, k, h, hd => by
    unfold qsw
    split
    · exact h o1 List.mem_cons_self
    · exact qsw_P t (k + 1) (fun o ho => h o (List.mem_cons_of_mem _ ho)) hd
theorem fa_n {P : Option qO → Prop} : ∀ o ∈ ([] : List (Option qO)), P o := fun o h => by cases h
theorem fa_c {P : Option qO → Prop} {o : Option qO} {os : List (Option qO)} (h : P o) (t : ∀ x ∈ os, P x) : ∀ x ∈ o :: os, P x := fun x hx => by
  rcases List.mem_cons.mp hx with rfl | h2
  · exact h
  · exact t x h2
def LwP (rk : qS → Option qO) (o : Option qO) : Prop := ∃ s', o = rk s' ∧ Inv s'
section LW
variable {rk : qS → Option qO} {σ : qS}
theorem lw_L {w q : qS → Option qO} (h : CaseL w q σ) : LwP rk (qbind (w σ) (qvI (fun r1 s1 => qbind (q s1) (qvI (fun r2 s2 => qbind (f_X8_thrown s2) (qvI (fun r3 s3 => (if r3 = r1 then (if r1 = 0 then (if (lg_cmp (((s3 38 0 0)).toInt64) ((r2).toInt64)) = 0 then rk s3 else (some (.inl (some (qI (0 : Int32))), s3))) else rk s3) else (some (.inl (some (qI (0 : Int32))), s3))))) qE0)) qE0)) qE0) := by
  obtain ⟨k, s1, b, s2, hk, hw, hq, ht, h0, hi⟩ := h
  refine ⟨s2, ?_, hi⟩
  rw [hw, qb_I, hq, qb_I]
  unfold f_X8_thrown
  rw [qb_I, ht, if_pos rfl]
  by_cases hk0 : k = 0
  · subst hk0
    rw [if_pos (by rfl), h0 rfl, lg_same, if_pos rfl]
  · rw [if_neg (n_nl (z := 0) (y := 0) rfl (by omega) (by omega) hk0)]
theorem lw_B {w q : qS → Option qO} (h : CaseB w q σ) : LwP rk (qbind (w σ) (qvI (fun r1 s1 => qbind (q s1) (qvI (fun r2 s2 => qbind (f_X8_thrown s2) (qvI (fun r3 s3 => (if r3 = r1 then (if r1 = 0 then (if r2 = 0 then (if (lg_cmp (((s3 38 0 0)).toInt64) ((0 : Int64))) = 0 then rk s3 else (some (.inl (some (qI (0 : Int32))), s3))) else (if (lg_cmp (((s3 38 0 0)).toInt64) ((1 : Int64))) = 0 then rk s3 else (some (.inl (some (qI (0 : Int32))), s3)))) else rk s3) else (some (.inl (some (qI (0 : Int32))), s3))))) qE0)) qE0)) qE0) := by
  obtain ⟨k, s1, b, s2, hk, hw, hq, ht, h0, hi, hb⟩ := h
  refine ⟨s2, ?_, hi⟩
  rw [hw, qb_I, hq, qb_I]
  unfold f_X8_thrown
  rw [qb_I, ht, if_pos rfl]
  by_cases hk0 : k = 0
  · subst hk0
    rw [if_pos (by rfl), h0 rfl]
    rcases hb with rfl | rfl
    · rw [if_pos rfl, show (0 : Int32).toInt64 = 0 from rfl, lg_same, if_pos rfl]
    · rw [if_neg (by decide), show (1 : Int32).toInt64 = 1 from rfl, lg_same, if_pos rfl]
  · rw [if_neg (n_nl (z := 0) (y := 0) rfl (by omega) (by omega) hk0)]
theorem lw_D {w q : qS → Option qO} (h : CaseD w q σ) : LwP rk (qbind (w σ) (qvI (fun r1 s1 => qbind (q s1) (qvI (fun r2 s2 => (if r1 = r2 then rk s2 else (some (.inl (some (qI (0 : Int32))), s2))))) qE0)) qE0) := by
  obtain ⟨r, s1, s2, hw, hq, hi⟩ := h
  refine ⟨s2, ?_, hi⟩
  rw [hw, qb_I, hq, qb_I, if_pos rfl]
theorem lw_DD {w q : qS → Option qO} (h : CaseDD w q σ) : LwP rk (qbind (w σ) (qvI (fun r1 s1 => qbind (q s1) (qvD (fun r2 s2 => qbind (f_X8_thrown s2) (qvI (fun r3 s3 => (if r3 = r1 then (if r1 = 0 then (if (Op.cmpValue (FP.dcmp (qdb (s3 39 0 0) (s3 39 0 1)) r2) .l) = 0 then rk s3 else (if (Op.cmpValue (FP.dcmp (qdb (s3 39 0 0) (s3 39 0 1)) (qdb (s3 39 0 0) (s3 39 0 1))) .l) = 0 then (some (.inl (some (qI (0 : Int32))), s3)) else (if (Op.cmpValue (FP.dcmp r2 r2) .l) = 0 then (some (.inl (some (qI (0 : Int32))), s3)) else rk s3))) else rk s3) else (some (.inl (some (qI (0 : Int32))), s3))))) qE0)) qE0)) qE0) := by
  obtain ⟨k, s1, x, s2, hk, hw, hq, ht, h0, hi⟩ := h
  refine ⟨s2, ?_, hi⟩
  rw [hw, qb_I, hq, qb_D]
  unfold f_X8_thrown
  rw [qb_I, ht, if_pos rfl]
  by_cases hk0 : k = 0
  · subst hk0
    obtain ⟨e, hn⟩ := h0 rfl
    rw [if_pos (by rfl), e, dcmp_self hn, if_pos (by rfl)]
  · rw [if_neg (n_nl (z := 0) (y := 0) rfl (by omega) (by omega) hk0)]
theorem lw_DF {w q : qS → Option qO} (h : CaseDF w q σ) : LwP rk (qbind (w σ) (qvI (fun r1 s1 => qbind (q s1) (qvF (fun r2 s2 => qbind (f_X8_thrown s2) (qvI (fun r3 s3 => (if r3 = r1 then (if r1 = 0 then (if qn64 (FP.f2d r2) then (if (Op.cmpValue (FP.dcmp (qdb (s3 39 0 0) (s3 39 0 1)) (FP.f2d r2)) .l) = 0 then rk s3 else (if (Op.cmpValue (FP.dcmp (qdb (s3 39 0 0) (s3 39 0 1)) (qdb (s3 39 0 0) (s3 39 0 1))) .l) = 0 then (some (.inl (some (qI (0 : Int32))), s3)) else (if (Op.cmpValue (FP.fcmp r2 r2) .l) = 0 then (some (.inl (some (qI (0 : Int32))), s3)) else rk s3))) else none) else rk s3) else (some (.inl (some (qI (0 : Int32))), s3))))) qE0)) qE0)) qE0) := by
  obtain ⟨k, s1, y, s2, hk, hw, hq, ht, h0, hi⟩ := h
  refine ⟨s2, ?_, hi⟩
  rw [hw, qb_I, hq, qb_F]
  unfold f_X8_thrown
  rw [qb_I, ht, if_pos rfl]
  by_cases hk0 : k = 0
  · subst hk0
    obtain ⟨e, hn⟩ := h0 rfl
    rw [if_pos (by rfl), if_pos (qn64_of (f2d_nn hn)), e, dcmp_self (f2d_nn hn), if_pos (by rfl)]
  · rw [if_neg (n_nl (z := 0) (y := 0) rfl (by omega) (by omega) hk0)]
end LW
section LX
variable {LL : Nat} {xs : Nat → Int32} {rk : Int32 → qS → Option qO} {v : Int32} {σ : qS}

theorem lx_284 (hi : Inv σ) (h1 : qin (v + (1 : Int32)) LL) (h2 : qin (v + (2 : Int32)) LL) (h3 : qin (v + (3 : Int32)) LL) (h4 : qin (v + (4 : Int32)) LL) : LwP (rk (v + (5 : Int32))) (j_L_law_284 LL xs rk v σ) := by
  unfold j_L_law_284
  simp only [if_pos h1, if_pos h2, if_pos h3, if_pos h4]
  exact lw_L (k_addTask _ _ _ _ hi)
theorem lx_376 (hi : Inv σ) (h1 : qin (v + (1 : Int32)) LL) : LwP (rk (v + (5 : Int32))) (j_L_law_376 LL xs rk v σ) := by
  unfold j_L_law_376
  simp only [if_pos h1]
  exact lw_L (k_removeTask _ hi)
theorem lx_432 (hi : Inv σ) (h1 : qin (v + (1 : Int32)) LL) (h2 : qin (v + (2 : Int32)) LL) : LwP (rk (v + (5 : Int32))) (j_L_law_432 LL xs rk v σ) := by
  unfold j_L_law_432
  simp only [if_pos h1, if_pos h2]
  exact lw_B (k_addDependency _ _ hi)
theorem lx_507 (hi : Inv σ) (h1 : qin (v + (1 : Int32)) LL) (h2 : qin (v + (2 : Int32)) LL) : LwP (rk (v + (5 : Int32))) (j_L_law_507 LL xs rk v σ) := by
  unfold j_L_law_507
  simp only [if_pos h1, if_pos h2]
  exact lw_B (k_removeDependency _ _ hi)
theorem lx_582 (hi : Inv σ) (h1 : qin (v + (1 : Int32)) LL) (h2 : qin (v + (2 : Int32)) LL) : LwP (rk (v + (5 : Int32))) (j_L_law_582 LL xs rk v σ) := by
  unfold j_L_law_582
  simp only [if_pos h1, if_pos h2]
  exact lw_L (k_setDuration _ _ hi)
theorem lx_650 (hi : Inv σ) (h1 : qin (v + (1 : Int32)) LL) (h2 : qin (v + (2 : Int32)) LL) : LwP (rk (v + (5 : Int32))) (j_L_law_650 LL xs rk v σ) := by
  unfold j_L_law_650
  simp only [if_pos h1, if_pos h2]
  exact lw_L (k_setRelease _ _ hi)
theorem lx_718 (hi : Inv σ) (h1 : qin (v + (1 : Int32)) LL) (h2 : qin (v + (2 : Int32)) LL) : LwP (rk (v + (5 : Int32))) (j_L_law_718 LL xs rk v σ) := by
  unfold j_L_law_718
  simp only [if_pos h1, if_pos h2]
  exact lw_L (k_setLimit _ _ hi)
theorem lx_786 (hi : Inv σ) : LwP (rk (v + (5 : Int32))) (j_L_law_786 LL xs rk v σ) := by
  unfold j_L_law_786
  exact lw_D (k_takeBaseline hi)
theorem lx_799 (hi : Inv σ) : LwP (rk (v + (5 : Int32))) (j_L_law_799 LL xs rk v σ) := by
  unfold j_L_law_799
  exact lw_D (k_taskCount hi)
theorem lx_812 (hi : Inv σ) (h1 : qin (v + (1 : Int32)) LL) : LwP (rk (v + (5 : Int32))) (j_L_law_812 LL xs rk v σ) := by
  unfold j_L_law_812
  simp only [if_pos h1]
  exact lw_L (k_duration _ hi)
theorem lx_868 (hi : Inv σ) (h1 : qin (v + (1 : Int32)) LL) : LwP (rk (v + (5 : Int32))) (j_L_law_868 LL xs rk v σ) := by
  unfold j_L_law_868
  simp only [if_pos h1]
  exact lw_L (k_resource _ hi)
theorem lx_924 (hi : Inv σ) (h1 : qin (v + (1 : Int32)) LL) : LwP (rk (v + (5 : Int32))) (j_L_law_924 LL xs rk v σ) := by
  unfold j_L_law_924
  simp only [if_pos h1]
  exact lw_L (k_demand _ hi)
theorem lx_980 (hi : Inv σ) (h1 : qin (v + (1 : Int32)) LL) : LwP (rk (v + (5 : Int32))) (j_L_law_980 LL xs rk v σ) := by
  unfold j_L_law_980
  simp only [if_pos h1]
  exact lw_L (k_release _ hi)
theorem lx_1036 (hi : Inv σ) (h1 : qin (v + (1 : Int32)) LL) : LwP (rk (v + (5 : Int32))) (j_L_law_1036 LL xs rk v σ) := by
  unfold j_L_law_1036
  simp only [if_pos h1]
  exact lw_L (k_limit _ hi)
theorem lx_1092 (hi : Inv σ) (h1 : qin (v + (1 : Int32)) LL) (h2 : qin (v + (2 : Int32)) LL) : LwP (rk (v + (5 : Int32))) (j_L_law_1092 LL xs rk v σ) := by
  unfold j_L_law_1092
  simp only [if_pos h1, if_pos h2]
  exact lw_B (k_dependsDirectly _ _ hi)
theorem lx_1167 (hi : Inv σ) (h1 : qin (v + (1 : Int32)) LL) (h2 : qin (v + (2 : Int32)) LL) : LwP (rk (v + (5 : Int32))) (j_L_law_1167 LL xs rk v σ) := by
  unfold j_L_law_1167
  simp only [if_pos h1, if_pos h2]
  exact lw_B (k_depends _ _ hi)
theorem lx_1242 (hi : Inv σ) (h1 : qin (v + (1 : Int32)) LL) (h2 : qin (v + (2 : Int32)) LL) : LwP (rk (v + (5 : Int32))) (j_L_law_1242 LL xs rk v σ) := by
  unfold j_L_law_1242
  simp only [if_pos h1, if_pos h2]
  exact lw_B (k_dependsByClosure _ _ hi)
theorem lx_1317 (hi : Inv σ) (h1 : qin (v + (1 : Int32)) LL) : LwP (rk (v + (5 : Int32))) (j_L_law_1317 LL xs rk v σ) := by
  unfold j_L_law_1317
  simp only [if_pos h1]
  exact lw_L (k_neededCount _ hi)
theorem lx_1373 (hi : Inv σ) (h1 : qin (v + (1 : Int32)) LL) : LwP (rk (v + (5 : Int32))) (j_L_law_1373 LL xs rk v σ) := by
  unfold j_L_law_1373
  simp only [if_pos h1]
  exact lw_L (k_dependentCount _ hi)
theorem lx_1429 (hi : Inv σ) (h1 : qin (v + (1 : Int32)) LL) : LwP (rk (v + (5 : Int32))) (j_L_law_1429 LL xs rk v σ) := by
  unfold j_L_law_1429
  simp only [if_pos h1]
  exact lw_L (k_taskInOrder _ hi)
theorem lx_1485 (hi : Inv σ) (h1 : qin (v + (1 : Int32)) LL) : LwP (rk (v + (5 : Int32))) (j_L_law_1485 LL xs rk v σ) := by
  unfold j_L_law_1485
  simp only [if_pos h1]
  exact lw_L (k_earliestStart _ hi)
theorem lx_1541 (hi : Inv σ) (h1 : qin (v + (1 : Int32)) LL) : LwP (rk (v + (5 : Int32))) (j_L_law_1541 LL xs rk v σ) := by
  unfold j_L_law_1541
  simp only [if_pos h1]
  exact lw_L (k_earliestStartByRounds _ hi)
theorem lx_1597 (hi : Inv σ) (h1 : qin (v + (1 : Int32)) LL) : LwP (rk (v + (5 : Int32))) (j_L_law_1597 LL xs rk v σ) := by
  unfold j_L_law_1597
  simp only [if_pos h1]
  exact lw_L (k_latestStart _ hi)
theorem lx_1653 (hi : Inv σ) (h1 : qin (v + (1 : Int32)) LL) : LwP (rk (v + (5 : Int32))) (j_L_law_1653 LL xs rk v σ) := by
  unfold j_L_law_1653
  simp only [if_pos h1]
  exact lw_L (k_slack _ hi)
theorem lx_1709 (hi : Inv σ) (h1 : qin (v + (1 : Int32)) LL) : LwP (rk (v + (5 : Int32))) (j_L_law_1709 LL xs rk v σ) := by
  unfold j_L_law_1709
  simp only [if_pos h1]
  exact lw_B (k_isCritical _ hi)
theorem lx_1772 (hi : Inv σ) : LwP (rk (v + (5 : Int32))) (j_L_law_1772 LL xs rk v σ) := by
  unfold j_L_law_1772
  exact lw_D (k_projectLength hi)
theorem lx_1785 (hi : Inv σ) : LwP (rk (v + (5 : Int32))) (j_L_law_1785 LL xs rk v σ) := by
  unfold j_L_law_1785
  exact lw_D (k_criticalCount hi)
theorem lx_1798 (hi : Inv σ) : LwP (rk (v + (5 : Int32))) (j_L_law_1798 LL xs rk v σ) := by
  unfold j_L_law_1798
  exact lw_L (k_lastTask hi)
theorem lx_1842 (hi : Inv σ) (h1 : qin (v + (1 : Int32)) LL) : LwP (rk (v + (5 : Int32))) (j_L_law_1842 LL xs rk v σ) := by
  unfold j_L_law_1842
  simp only [if_pos h1]
  exact lw_L (k_levelledStart _ hi)
theorem lx_1898 (hi : Inv σ) : LwP (rk (v + (5 : Int32))) (j_L_law_1898 LL xs rk v σ) := by
  unfold j_L_law_1898
  exact lw_D (k_levelledLength hi)
theorem lx_1911 (hi : Inv σ) (h1 : qin (v + (1 : Int32)) LL) (h2 : qin (v + (2 : Int32)) LL) : LwP (rk (v + (5 : Int32))) (j_L_law_1911 LL xs rk v σ) := by
  unfold j_L_law_1911
  simp only [if_pos h1, if_pos h2]
  exact lw_L (k_usage _ _ hi)
theorem lx_1979 (hi : Inv σ) (h1 : qin (v + (1 : Int32)) LL) (h2 : qin (v + (2 : Int32)) LL) : LwP (rk (v + (5 : Int32))) (j_L_law_1979 LL xs rk v σ) := by
  unfold j_L_law_1979
  simp only [if_pos h1, if_pos h2]
  exact lw_L (k_usageByTasks _ _ hi)
theorem lx_2047 (hi : Inv σ) (h1 : qin (v + (1 : Int32)) LL) : LwP (rk (v + (5 : Int32))) (j_L_law_2047 LL xs rk v σ) := by
  unfold j_L_law_2047
  simp only [if_pos h1]
  exact lw_L (k_peakUsage _ hi)
theorem lx_2103 (hi : Inv σ) (h1 : qin (v + (1 : Int32)) LL) : LwP (rk (v + (5 : Int32))) (j_L_law_2103 LL xs rk v σ) := by
  unfold j_L_law_2103
  simp only [if_pos h1]
  exact lw_L (k_tasksOn _ hi)
theorem lx_2159 (hi : Inv σ) (h1 : qin (v + (1 : Int32)) LL) : LwP (rk (v + (5 : Int32))) (j_L_law_2159 LL xs rk v σ) := by
  unfold j_L_law_2159
  simp only [if_pos h1]
  exact lw_L (k_workload _ hi)
theorem lx_2215 (hi : Inv σ) (h1 : qin (v + (1 : Int32)) LL) : LwP (rk (v + (5 : Int32))) (j_L_law_2215 LL xs rk v σ) := by
  unfold j_L_law_2215
  simp only [if_pos h1]
  exact lw_L (k_workloadByDays _ hi)
theorem lx_2271 (hi : Inv σ) : LwP (rk (v + (5 : Int32))) (j_L_law_2271 LL xs rk v σ) := by
  unfold j_L_law_2271
  exact lw_D (k_hasBaseline hi)
theorem lx_2284 (hi : Inv σ) (h1 : qin (v + (1 : Int32)) LL) : LwP (rk (v + (5 : Int32))) (j_L_law_2284 LL xs rk v σ) := by
  unfold j_L_law_2284
  simp only [if_pos h1]
  exact lw_L (k_baselineStart _ hi)
theorem lx_2340 (hi : Inv σ) (h1 : qin (v + (1 : Int32)) LL) : LwP (rk (v + (5 : Int32))) (j_L_law_2340 LL xs rk v σ) := by
  unfold j_L_law_2340
  simp only [if_pos h1]
  exact lw_L (k_drift _ hi)
theorem lx_2396 (hi : Inv σ) : LwP (rk (v + (5 : Int32))) (j_L_law_2396 LL xs rk v σ) := by
  unfold j_L_law_2396
  exact lw_L (k_totalDrift hi)
theorem lx_2440 (hi : Inv σ) (h1 : qin (v + (1 : Int32)) LL) : LwP (rk (v + (5 : Int32))) (j_L_law_2440 LL xs rk v σ) := by
  unfold j_L_law_2440
  simp only [if_pos h1]
  exact lw_L (k_taskBySlack _ hi)
theorem lx_2496 (hi : Inv σ) (h1 : qin (v + (1 : Int32)) LL) : LwP (rk (v + (5 : Int32))) (j_L_law_2496 LL xs rk v σ) := by
  unfold j_L_law_2496
  simp only [if_pos h1]
  exact lw_L (k_taskByStart _ hi)
theorem lx_2552 (hi : Inv σ) : LwP (rk (v + (5 : Int32))) (j_L_law_2552 LL xs rk v σ) := by
  unfold j_L_law_2552
  exact lw_DD (k_meanSlack hi)
theorem lx_2617 (hi : Inv σ) (h1 : qin (v + (1 : Int32)) LL) : LwP (rk (v + (5 : Int32))) (j_L_law_2617 LL xs rk v σ) := by
  unfold j_L_law_2617
  simp only [if_pos h1]
  exact lw_DF (k_utilization _ hi)
theorem lx_2695 (hi : Inv σ) : LwP (rk (v + (5 : Int32))) (j_L_law_2695 LL xs rk v σ) := by
  unfold j_L_law_2695
  exact lw_D (k_isConsistent hi)
theorem lx_2708 (hi : Inv σ) (h1 : qin (v + (1 : Int32)) LL) : LwP (rk (v + (5 : Int32))) (j_L_law_2708 LL xs rk v σ) := by
  unfold j_L_law_2708
  simp only [if_pos h1]
  exact lw_L (k_renderTask _ hi)
theorem lx_2764 (hi : Inv σ) (h1 : qin (v + (1 : Int32)) LL) : LwP (rk (v + (5 : Int32))) (j_L_law_2764 LL xs rk v σ) := by
  unfold j_L_law_2764
  simp only [if_pos h1]
  exact lw_L (k_renderUsage _ hi)
theorem lx_2820 (hi : Inv σ) (h1 : qin (v + (1 : Int32)) LL) : LwP (rk (v + (5 : Int32))) (j_L_law_2820 LL xs rk v σ) := by
  unfold j_L_law_2820
  simp only [if_pos h1]
  exact lw_L (k_outputAt _ hi)
theorem lx_2876 (hi : Inv σ) (h1 : qin (v + (1 : Int32)) LL) : LwP (rk (v + (5 : Int32))) (j_L_law_2876 LL xs rk v σ) := by
  unfold j_L_law_2876
  simp only [if_pos h1]
  exact lw_L (k_type _ hi)
theorem lx_2934 (hi : Inv σ) : LwP (rk (v + (5 : Int32))) (j_L_law_2934 LL xs rk v σ) := by
  unfold j_L_law_2934
  exact lw_L (k_runScript hi)
theorem lx_2978 (hi : Inv σ) : LwP (rk (v + (5 : Int32))) (j_L_law_2978 LL xs rk v σ) := by
  unfold j_L_law_2978
  exact lw_L (k_errorPosition hi)
theorem lx_3022 (hi : Inv σ) : LwP (rk (v + (5 : Int32))) (j_L_law_3022 LL xs rk v σ) := by
  unfold j_L_law_3022
  exact lw_L (k_failedCommand hi)
theorem lx_3066 (hi : Inv σ) : LwP (rk (v + (5 : Int32))) (j_L_law_3066 LL xs rk v σ) := by
  unfold j_L_law_3066
  exact lw_L (k_failureReason hi)
theorem lx_3110 (hi : Inv σ) : LwP (rk (v + (5 : Int32))) (j_L_law_3110 LL xs rk v σ) := by
  unfold j_L_law_3110
  exact lw_L (k_undo hi)
theorem lx_3154 (hi : Inv σ) : LwP (rk (v + (5 : Int32))) (j_L_law_3154 LL xs rk v σ) := by
  unfold j_L_law_3154
  exact lw_D (k_save hi)
theorem lx_3167 (hi : Inv σ) : LwP (rk (v + (5 : Int32))) (j_L_law_3167 LL xs rk v σ) := by
  unfold j_L_law_3167
  exact lw_L (k_restore hi)
end LX
theorem law_step {LL : Nat} {xs : Nat → Int32} {rk : Int32 → qS → Option qO} {v : Int32} {σ : qS} (hi : Inv σ) (hv : ¬ ((Int32.ofNat LL) - (5 : Int32)) < v) (h0 : qin v LL) (h1 : qin (v + (1 : Int32)) LL) (h2 : qin (v + (2 : Int32)) LL) (h3 : qin (v + (3 : Int32)) LL) (h4 : qin (v + (4 : Int32)) LL) : LwP (rk (v + (5 : Int32))) (b_L_law_28 LL xs rk v σ) := by
  unfold b_L_law_28
  rw [if_neg hv, if_pos h0]
  exact qsw_P _ _ (fa_c (lx_284 hi h1 h2 h3 h4)
    (fa_c (lx_376 hi h1)
    (fa_c (lx_432 hi h1 h2)
    (fa_c (lx_507 hi h1 h2)
    (fa_c (lx_582 hi h1 h2)
    (fa_c (lx_650 hi h1 h2)
    (fa_c (lx_718 hi h1 h2)
    (fa_c (lx_786 hi)
    (fa_c (lx_799 hi)
    (fa_c (lx_812 hi h1)
    (fa_c (lx_868 hi h1)
    (fa_c (lx_924 hi h1)
    (fa_c (lx_980 hi h1)
    (fa_c (lx_1036 hi h1)
    (fa_c (lx_1092 hi h1 h2)
    (fa_c (lx_1167 hi h1 h2)
    (fa_c (lx_1242 hi h1 h2)
    (fa_c (lx_1317 hi h1)
    (fa_c (lx_1373 hi h1)
    (fa_c (lx_1429 hi h1)
    (fa_c (lx_1485 hi h1)
    (fa_c (lx_1541 hi h1)
    (fa_c (lx_1597 hi h1)
    (fa_c (lx_1653 hi h1)
    (fa_c (lx_1709 hi h1)
    (fa_c (lx_1772 hi)
    (fa_c (lx_1785 hi)
    (fa_c (lx_1798 hi)
    (fa_c (lx_1842 hi h1)
    (fa_c (lx_1898 hi)
    (fa_c (lx_1911 hi h1 h2)
    (fa_c (lx_1979 hi h1 h2)
    (fa_c (lx_2047 hi h1)
    (fa_c (lx_2103 hi h1)
    (fa_c (lx_2159 hi h1)
    (fa_c (lx_2215 hi h1)
    (fa_c (lx_2271 hi)
    (fa_c (lx_2284 hi h1)
    (fa_c (lx_2340 hi h1)
    (fa_c (lx_2396 hi)
    (fa_c (lx_2440 hi h1)
    (fa_c (lx_2496 hi h1)
    (fa_c (lx_2552 hi)
    (fa_c (lx_2617 hi h1)
    (fa_c (lx_2695 hi)
    (fa_c (lx_2708 hi h1)
    (fa_c (lx_2764 hi h1)
    (fa_c (lx_2820 hi h1)
    (fa_c (lx_2876 hi h1)
    (fa_c (lx_2934 hi)
    (fa_c (lx_2978 hi)
    (fa_c (lx_3022 hi)
    (fa_c (lx_3066 hi)
    (fa_c (lx_3110 hi)
    (fa_c (lx_3154 hi)
    (fa_c (lx_3167 hi)
    fa_n)))))))))))))))))))))))))))))))))))))))))))))))))))))))) ⟨σ, rfl, hi⟩
/-- the law's loop answers true -/
theorem law_all {LL : Nat} (hLL : LL ≤ 2560) {xs : Nat → Int32} : ∀ (n i : Nat) (σ : qS), Inv σ → i ≤ LL → LL + 5 ≤ i + 5 * n → ∃ σ', l_L_law_28 LL xs n (nI i) σ = some (.inl (some (qI (1 : Int32))), σ')
  | 0, i, σ, _, _, _ => by omega
  | n + 1, i, σ, hi, hle, hn => by
    have e5 : ((Int32.ofNat LL) - (5 : Int32)).toInt = (LL : Int) - 5 := by
      rw [show Int32.ofNat LL = nI LL from rfl]
      by_cases h : 5 ≤ LL
      · rw [show (5 : Int32) = nI 5 from rfl, n_sub h, nI_toInt (by omega)]
        omega
      · rcases (show LL = 0 ∨ LL = 1 ∨ LL = 2 ∨ LL = 3 ∨ LL = 4 by omega) with rfl | rfl | rfl | rfl | rfl <;> rfl
    have ei : (nI i).toInt = (i : Int) := nI_toInt (by omega)
    show ∃ σ', b_L_law_28 LL xs (l_L_law_28 LL xs n) (nI i) σ = _
    by_cases h : i + 5 ≤ LL
    · have hv : ¬ ((Int32.ofNat LL) - (5 : Int32)) < nI i := by rw [Int32.lt_iff_toInt_lt, e5, ei]; omega
      have a1 : nI i + (1 : Int32) = nI (i + 1) := nI_add i 1
      have a2 : nI i + (2 : Int32) = nI (i + 2) := nI_add i 2
      have a3 : nI i + (3 : Int32) = nI (i + 3) := nI_add i 3
      have a4 : nI i + (4 : Int32) = nI (i + 4) := nI_add i 4
      have a5 : nI i + (5 : Int32) = nI (i + 5) := nI_add i 5
      obtain ⟨s', e, hi'⟩ := law_step (rk := l_L_law_28 LL xs n) (xs := xs) hi hv (n_in (by omega) (by omega)) (by rw [a1]; exact n_in (by omega) (by omega)) (by rw [a2]; exact n_in (by omega) (by omega)) (by rw [a3]; exact n_in (by omega) (by omega)) (by rw [a4]; exact n_in (by omega) (by omega))
      rw [e, a5]
      exact law_all hLL n (i + 5) s' hi' h (by omega)
    · refine ⟨σ, ?_⟩
      unfold b_L_law_28
      rw [if_pos (by rw [Int32.lt_iff_toInt_lt, e5, ei]; omega)]
