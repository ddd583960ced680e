/-! what the class answers, where it doesn't throw -/
def An (P : qP) (hs : List qP) (e : Option qO) (v : Int32) (σ : qS) : Prop := ∃ σ', e = qan v σ' ∧ Qt σ σ' ∧ InvB σ' P hs ∧ PlanSt P σ'
section MZ
variable {P : qP} {hs : List qP} {σ : qS}
theorem m_reqT (I : InvB σ P hs) {t : Nat} (ht : t < pn P) : f_X7_requireTaskZ (nI t) σ = qdo σ := by
  unfold f_X7_requireTaskZ
  rw [c_faultT I.2.1, isT_n I.1 ht, if_pos rfl, qb_I]
  rfl
theorem m_reqR {r : Nat} (hr : r < 3) : f_X7_requireResourceZ (nI r) σ = qdo σ := by
  unfold f_X7_requireResourceZ
  rw [e_isWithin, qb_I, show decide ((0 : Int32) ≤ nI r ∧ nI r ≤ 2) = true from isR_iff.mpr ⟨r, hr, rfl⟩]
  rfl
theorem m_reqD {d : Nat} (hd : d < 2 ^ 31) : f_X7_requireDayZ (nI d) σ = qdo σ := by
  unfold f_X7_requireDayZ
  rw [if_pos (nI_pos' hd)]
theorem m_duration (I : InvB σ P hs) {t : Nat} (ht : t < pn P) : f_X7_durationZ (nI t) σ = qan (pf P 0 t) σ := by
  unfold f_X7_durationZ
  rw [m_reqT I ht, qb_V, c_dur I.2.1 I.1 ht, qb_I]
theorem m_resource (I : InvB σ P hs) {t : Nat} (ht : t < pn P) : f_X7_resourceZ (nI t) σ = qan (pf P 1 t) σ := by
  unfold f_X7_resourceZ
  rw [m_reqT I ht, qb_V, c_res I.2.1 I.1 ht, qb_I]
theorem m_demand (I : InvB σ P hs) {t : Nat} (ht : t < pn P) : f_X7_demandZ (nI t) σ = qan (pf P 2 t) σ := by
  unfold f_X7_demandZ
  rw [m_reqT I ht, qb_V, c_dem I.2.1 I.1 ht, qb_I]
theorem m_release (I : InvB σ P hs) {t : Nat} (ht : t < pn P) : f_X7_releaseZ (nI t) σ = qan (pf P 3 t) σ := by
  unfold f_X7_releaseZ
  rw [m_reqT I ht, qb_V, c_rel I.2.1 I.1 ht, qb_I]
theorem m_limit (I : InvB σ P hs) {r : Nat} (hr : r < 3) : f_X7_limitZ (nI r) σ = qan (pl P r) σ := by
  unfold f_X7_limitZ
  rw [m_reqR hr, qb_V, c_lim I.2.1 hr, qb_I]
theorem m_direct (I : InvB σ P hs) {t u : Nat} (ht : t < pn P) (hu : u < pn P) : f_X7_dependsDirectlyZ (nI t) (nI u) σ = qan (qb1 (ped P t u)) σ := by
  have hn := I.1.1
  unfold f_X7_dependsDirectlyZ
  rw [m_reqT I ht, qb_V, m_reqT I hu, qb_V, c_linked I.2.1 I.1 ht (by omega), qb_I, if_pos (qb1_bo _)]
theorem m_depends (I : InvB σ P hs) {t u : Nat} (ht : t < pn P) (hu : u < pn P) : f_X7_dependsZ (nI t) (nI u) σ = qan (qb1 (prea P t u)) σ := by
  have hn := I.1.1
  unfold f_X7_dependsZ
  rw [m_reqT I ht, qb_V, m_reqT I hu, qb_V, c_reaches I.2.1 I.1 ht (by omega), qb_I, if_pos (qb1_bo _)]
theorem m_depc (I : InvB σ P hs) {t : Nat} (ht : t < pn P) : f_X7_dependentCountZ (nI t) σ = qan (fo (fun o a => if ped P o t = true then a + 1 else a) (pn P) 0 0) σ := by
  have hn := I.1.1
  unfold f_X7_dependentCountZ
  rw [m_reqT I ht, qb_V]
  exact cz_depc_loop I.1 I.2.1 ht (pn P) 0 qFU 0 (by omega) (by unfold qFU; omega)
theorem m_workload (I : InvB σ P hs) {r : Nat} (hr : r < 3) : f_X7_workloadZ (nI r) σ = qan (pwork P (nI r)) σ := by
  unfold f_X7_workloadZ
  rw [m_reqR hr, qb_V, c_work I.1 I.2.1, qb_I]
theorem m_count (I : InvB σ P hs) : f_X7_taskCount σ = qan (nI (pn P)) σ := by
  unfold f_X7_taskCount
  rw [I.2.1.1]
/-! of the plan -/
theorem m_closure (I : InvB σ P hs) (S : PlanSt P σ) {t u : Nat} (ht : t < pn P) (hu : u < pn P) : An P hs (f_X7_dependsByClosureZ (nI t) (nI u) σ) (qb1 (prea P t u)) σ := by
  obtain ⟨σ1, c1, q1, I1, s8, p1⟩ := c_plan I S
  have hn := I.1.1
  refine ⟨σ1, ?_, q1, I1, Or.inr ⟨s8, p1⟩⟩
  unfold f_X7_dependsByClosureZ
  rw [m_reqT I ht, qb_V, m_reqT I hu, qb_V, c1, qb_P, e_at (show t < 12 by omega) (by decide), qb_I, e_hasBit (by omega), qb_I, p1.2.1 t ht, if_pos (qb1_bo _)]
theorem m_order (I : InvB σ P hs) (S : PlanSt P σ) {k : Nat} (hk : k < pn P) : An P hs (f_X7_taskInOrderZ (nI k) σ) (nI (pord P k)) σ := by
  obtain ⟨σ1, c1, q1, I1, s8, p1⟩ := c_plan I S
  have hn := I.1.1
  refine ⟨σ1, ?_, q1, I1, Or.inr ⟨s8, p1⟩⟩
  unfold f_X7_taskInOrderZ
  rw [e_isWithin, qb_I, I.2.1.1, show decide ((0 : Int32) ≤ nI k ∧ nI k ≤ nI (pn P) - 1) = true from isT_n I.1 hk, if_neg (by decide), c1, qb_P, e_at (show k < 12 by omega) (by decide), qb_I, p1.1 k hk]
theorem m_early (I : InvB σ P hs) (S : PlanSt P σ) {t : Nat} (ht : t < pn P) : An P hs (f_X7_earliestStartZ (nI t) σ) (pE P t) σ := by
  obtain ⟨σ1, c1, q1, I1, s8, p1⟩ := c_plan I S
  have hn := I.1.1
  refine ⟨σ1, ?_, q1, I1, Or.inr ⟨s8, p1⟩⟩
  unfold f_X7_earliestStartZ
  rw [m_reqT I ht, qb_V, c1, qb_P, e_at (show t < 12 by omega) (by decide), qb_I, p1.2.2.1 t ht]
theorem m_rounds (I : InvB σ P hs) (S : PlanSt P σ) {t : Nat} (ht : t < pn P) : An P hs (f_X7_earliestStartByRoundsZ (nI t) σ) (pE P t) σ := by
  obtain ⟨σ1, c1, q1, I1, s8, p1⟩ := c_plan I S
  have hn := I.1.1
  refine ⟨σ1, ?_, q1, I1, Or.inr ⟨s8, p1⟩⟩
  unfold f_X7_earliestStartByRoundsZ
  rw [m_reqT I ht, qb_V, c1, qb_P, e_at (show t < 12 by omega) (by decide), qb_I, p1.2.2.2.1 t ht]
theorem m_late (I : InvB σ P hs) (S : PlanSt P σ) {t : Nat} (ht : t < pn P) : An P hs (f_X7_latestStartZ (nI t) σ) (pL P t) σ := by
  obtain ⟨σ1, c1, q1, I1, s8, p1⟩ := c_plan I S
  have hn := I.1.1
  refine ⟨σ1, ?_, q1, I1, Or.inr ⟨s8, p1⟩⟩
  unfold f_X7_latestStartZ
  rw [m_reqT I ht, qb_V, c1, qb_P, e_at (show t < 12 by omega) (by decide), qb_I, p1.2.2.2.2.1 t ht]
theorem m_slack (I : InvB σ P hs) (S : PlanSt P σ) {t : Nat} (ht : t < pn P) : An P hs (f_X7_slackZ (nI t) σ) (pL P t - pE P t) σ := by
  obtain ⟨σ1, c1, q1, I1, s8, p1⟩ := c_plan I S
  refine ⟨σ1, ?_, q1, I1, Or.inr ⟨s8, p1⟩⟩
  unfold f_X7_slackZ
  rw [m_reqT I ht, qb_V, c1, qb_P, e_slack p1 I.1 ht, qb_I]
theorem m_critical (I : InvB σ P hs) (S : PlanSt P σ) {t : Nat} (ht : t < pn P) : An P hs (f_X7_isCriticalZ (nI t) σ) (qb1 (decide (pL P t = pE P t))) σ := by
  obtain ⟨σ1, c1, q1, I1, s8, p1⟩ := c_plan I S
  refine ⟨σ1, ?_, q1, I1, Or.inr ⟨s8, p1⟩⟩
  unfold f_X7_isCriticalZ
  rw [m_reqT I ht, qb_V, c1, qb_P, e_slack p1 I.1 ht, qb_I]
  by_cases h : pL P t = pE P t
  · rw [if_pos (i_sub0.mpr h), decide_eq_true h]; rfl
  · rw [if_neg (fun h2 => h (i_sub0.mp h2)), decide_eq_false h]; rfl
theorem m_level (I : InvB σ P hs) (S : PlanSt P σ) {t : Nat} (ht : t < pn P) : An P hs (f_X7_levelledStartZ (nI t) σ) (nI (pV P t)) σ := by
  obtain ⟨σ1, c1, q1, I1, s8, p1⟩ := c_plan I S
  have hn := I.1.1
  refine ⟨σ1, ?_, q1, I1, Or.inr ⟨s8, p1⟩⟩
  unfold f_X7_levelledStartZ
  rw [m_reqT I ht, qb_V, c1, qb_P, e_at (show t < 12 by omega) (by decide), qb_I, p1.2.2.2.2.2.1.1 t ht (pst_full I.1 ht)]
  rfl
theorem m_usage (I : InvB σ P hs) (S : PlanSt P σ) {r d : Nat} (hr : r < 3) (hd : d < 2 ^ 31) : An P hs (f_X7_usageZ (nI r) (nI d) σ) (nI (pUf P r d)) σ := by
  obtain ⟨σ1, c1, q1, I1, s8, p1⟩ := c_plan I S
  refine ⟨σ1, ?_, q1, I1, Or.inr ⟨s8, p1⟩⟩
  unfold f_X7_usageZ
  rw [m_reqR hr, qb_V, m_reqD hd, qb_V, c1, qb_P, c_usedOn I.1 p1 hr hd, qb_I]
theorem m_byTasks (I : InvB σ P hs) (S : PlanSt P σ) {r d : Nat} (hr : r < 3) (hd : d < 2 ^ 31) : An P hs (f_X7_usageByTasksZ (nI r) (nI d) σ) (nI (pUf P r d)) σ := by
  have hn := I.1.1
  unfold f_X7_usageByTasksZ
  rw [m_reqR hr, qb_V, m_reqD hd, qb_V, pUf_eq I.1]
  exact cz_byTasks_loop hr hd (pn P) 0 qFU σ (by omega) (by unfold qFU; omega) I S
theorem m_peak (I : InvB σ P hs) (S : PlanSt P σ) {r : Nat} (hr : r < 3) : An P hs (f_X7_peakUsageZ (nI r) σ) (ppk P r) σ := by
  obtain ⟨σ1, c1, q1, I1, s8, p1⟩ := c_plan I S
  refine ⟨σ1, ?_, q1, I1, Or.inr ⟨s8, p1⟩⟩
  unfold f_X7_peakUsageZ
  rw [m_reqR hr, qb_V, c1, qb_P]
  exact cz_peak_loop I.1 p1 hr 138 0 qFU 0 (by omega) (by unfold qFU; omega)
theorem m_tasksOn (I : InvB σ P hs) (S : PlanSt P σ) {d : Nat} (hd : d < 2 ^ 31) : An P hs (f_X7_tasksOnZ (nI d) σ) (fo (fun t a => if pwd P t d = true then a + 1 else a) (pn P) 0 0) σ := by
  have hn := I.1.1
  unfold f_X7_tasksOnZ
  rw [m_reqD hd, qb_V]
  exact cz_tasksOn_loop hd (pn P) 0 qFU 0 σ (by omega) (by unfold qFU; omega) I S
theorem m_days (I : InvB σ P hs) (S : PlanSt P σ) {r : Nat} (hr : r < 3) : An P hs (f_X7_workloadByDaysZ (nI r) σ) (pwork P (nI r)) σ := by
  obtain ⟨σ1, c1, q1, I1, s8, p1⟩ := c_plan I S
  refine ⟨σ1, ?_, q1, I1, Or.inr ⟨s8, p1⟩⟩
  unfold f_X7_workloadByDaysZ
  rw [m_reqR hr, qb_V, c1, qb_P, c_days I.1 p1 hr, qb_I]
theorem m_projectLength (I : InvB σ P hs) (S : PlanSt P σ) : An P hs (f_X7_projectLength σ) (plast P (pE P)) σ := by
  obtain ⟨σ1, c1, q1, I1, s8, p1⟩ := c_plan I S
  refine ⟨σ1, ?_, q1, I1, Or.inr ⟨s8, p1⟩⟩
  unfold f_X7_projectLength
  rw [c1, qb_P, p1.2.2.2.2.2.2.1]
theorem m_levelledLength (I : InvB σ P hs) (S : PlanSt P σ) : An P hs (f_X7_levelledLength σ) (nI (pend P (pn P))) σ := by
  obtain ⟨σ1, c1, q1, I1, s8, p1⟩ := c_plan I S
  refine ⟨σ1, ?_, q1, I1, Or.inr ⟨s8, p1⟩⟩
  unfold f_X7_levelledLength
  rw [c1, qb_P, p1.2.2.2.2.2.2.2]
theorem m_criticalCount (I : InvB σ P hs) (S : PlanSt P σ) : An P hs (f_X7_criticalCount σ) (fo (fun t a => if pL P t = pE P t then a + 1 else a) (pn P) 0 0) σ := by
  obtain ⟨σ1, c1, q1, I1, s8, p1⟩ := c_plan I S
  have hn := I.1.1
  refine ⟨σ1, ?_, q1, I1, Or.inr ⟨s8, p1⟩⟩
  unfold f_X7_criticalCount
  rw [c1, qb_P]
  exact c_crit_loop I.1 I1.2.1 p1 (pn P) 0 qFU 0 (by omega) (by unfold qFU; omega)
theorem m_consistent (I : InvB σ P hs) (S : PlanSt P σ) : An P hs (f_X7_isConsistent σ) 1 σ := by
  have W := I.1
  have hn := W.1
  obtain ⟨σ1, c1, q1, I1, s8, p1⟩ := c_plan I S
  obtain ⟨σ2, c2, q2, I2, s9, p2⟩ := c_plan I1 (Or.inr ⟨s8, p1⟩)
  obtain ⟨σ3, c3, q3, I3, s10, p3⟩ := c_plan I2 (Or.inr ⟨s9, p2⟩)
  refine ⟨σ3, ?_, (q1.trans q2).trans q3, I3, Or.inr ⟨s10, p3⟩⟩
  unfold f_X7_isConsistent f_X7_startsAgree
  rw [c1, qb_P]
  erw [c_sa_loop W I1.2.1 p1 (pn P) 0 qFU (by omega) (by unfold qFU; omega)]
  rw [qb_I, if_neg (by decide)]
  unfold f_X7_dependenciesAgree
  rw [c2, qb_P]
  erw [c_da_out W I2.2.1 p2 (pn P) 0 qFU (by omega) (by unfold qFU; omega)]
  rw [qb_I, if_neg (by decide)]
  unfold f_X7_workloadsAgree
  rw [c3, qb_P]
  erw [c_wa_loop W I3.2.1 p3 3 0 qFU (by omega) (by unfold qFU; omega)]
  rw [qb_I, if_neg (by decide)]
theorem m_bySlack (I : InvB σ P hs) (S : PlanSt P σ) {x : Int32} {t : Nat} (ht : t < pn P) (hx : gfs (rkq P (sA P) (sB P) x) (pn P) 0 = t) : An P hs (f_X7_taskBySlackZ x σ) (nI t) σ := by
  have W := I.1
  have hn := W.1
  obtain ⟨σ1, c1, q1, I1, s8, p1⟩ := c_plan I S
  obtain ⟨σ3, q3, c3, K3, H3, p3⟩ := cz_bySlack_loop W x (pn P) 0 qFU σ1 (by omega) (by unfold qFU; omega) I1.2.1 p1 (fun t ht => by omega)
  have Q3 : Qt σ1 σ3 := Qt.of q3 (by simp)
  have cr := cz_rank W H3 K3 (fun t ht => by have := (W.2.1 t ht).1; show 0 ≤ (pf P 0 t).toInt ∧ (pf P 0 t).toInt ≤ 9; omega) x
  refine ⟨σ3, ?_, q1.trans Q3, I1.qt Q3, Or.inr ⟨by rw [q3 0 0 (by simp)]; exact s8, p3⟩⟩
  have hc : f_X7_taskBySlackZ x σ = qbind (f_X7_taskAtRankZ x σ3) (qvI (fun r1 s2 => (some (.inl (some (qI r1)), s2)))) qE0 := by
    unfold f_X7_taskBySlackZ
    rw [c1, qb_P]
    exact c3
  rw [hc, cr, show gfs (rkq P (fun t => (pL P t).toInt - (pE P t).toInt) (fun t => (pf P 0 t).toInt) x) (pn P) 0 = t from hx, if_neg (by omega), qb_I]
theorem m_byStart (I : InvB σ P hs) (S : PlanSt P σ) {x : Int32} {t : Nat} (ht : t < pn P) (hx : gfs (rkq P (vA P) (vB P) x) (pn P) 0 = t) : An P hs (f_X7_taskByStartZ x σ) (nI t) σ := by
  have W := I.1
  have hn := W.1
  obtain ⟨σ1, c1, q1, I1, s8, p1⟩ := c_plan I S
  obtain ⟨σ3, q3, c3, K3, H3, p3⟩ := cz_byStart_loop W x (pn P) 0 qFU σ1 (by omega) (by unfold qFU; omega) I1.2.1 p1 (fun t ht => by omega)
  have Q3 : Qt σ1 σ3 := Qt.of q3 (by simp)
  have cr := cz_rank W H3 K3 (fun t ht => by have := (W.2.1 t ht).2.2.1; show 0 ≤ (pf P 2 t).toInt ∧ (pf P 2 t).toInt ≤ 9; omega) x
  refine ⟨σ3, ?_, q1.trans Q3, I1.qt Q3, Or.inr ⟨by rw [q3 0 0 (by simp)]; exact s8, p3⟩⟩
  have hc : f_X7_taskByStartZ x σ = qbind (f_X7_taskAtRankZ x σ3) (qvI (fun r1 s2 => (some (.inl (some (qI r1)), s2)))) qE0 := by
    unfold f_X7_taskByStartZ
    rw [c1, qb_P]
    exact c3
  rw [hc, cr, show gfs (rkq P (fun t => (pV P t : Int)) (fun t => (pf P 2 t).toInt) x) (pn P) 0 = t from hx, if_neg (by omega), qb_I]
/-! the quotients -/
theorem m_mean (I : InvB σ P hs) (S : PlanSt P σ) (h0 : 0 < pn P) : ∃ σ', f_X7_meanSlackZ σ = some (.inl (some (.inl (.double (FP.ddiv (FP.i2d (pslk P (pn P) 0 0)) (FP.i2d (nI (pn P))))))), σ') ∧ Qt σ σ' ∧ InvB σ' P hs ∧ PlanSt P σ' := by
  have hn := I.1.1
  have hz : ¬ nI (pn P) = 0 := fun h2 => by rw [show (0 : Int32) = nI 0 from rfl, n_eq (by omega) (by omega)] at h2; omega
  obtain ⟨σ1, c1, q1, I1, s8, p1⟩ := c_plan I S
  refine ⟨σ1, ?_, q1, I1, Or.inr ⟨s8, p1⟩⟩
  unfold f_X7_meanSlackZ
  rw [I.2.1.1, if_neg hz, c1, qb_P]
  exact cz_mean_loop I.1 p1 h0 (pn P) 0 qFU 0 (by omega) (by unfold qFU; omega)
theorem m_util (I : InvB σ P hs) (S : PlanSt P σ) (h0 : 0 < pn P) {r : Nat} (hr : r < 3) : ∃ σ', f_X7_utilizationZ (nI r) σ = some (.inl (some (.inl (.float (FP.fdiv (FP.i2f (pwork P (nI r))) (FP.i2f (pl P r * nI (pend P (pn P)))))))), σ') ∧ Qt σ σ' ∧ InvB σ' P hs ∧ PlanSt P σ' ∧ Jvm.FP.Core.fIsNaN (FP.fdiv (FP.i2f (pwork P (nI r))) (FP.i2f (pl P r * nI (pend P (pn P))))) = false := by
  have W := I.1
  have hn := W.1
  obtain ⟨σ1, c1, q1, I1, s8, p1⟩ := c_plan I S
  have hl := W.ln hr
  have hp := pend_pos W h0
  have hm : pln P r * pend P (pn P) ≤ 20 * 138 := Nat.mul_le_mul hl.2.2 hp.2
  have hm0 : 0 < pln P r * pend P (pn P) := Nat.mul_pos (by omega) hp.1
  have hz : ¬ pl P r * nI (pend P (pn P)) = 0 := fun h2 => by
    rw [hl.1, n_mul, show (0 : Int32) = nI 0 from rfl, n_eq (by omega) (by omega)] at h2; omega
  have hnn := nn32_div (pwork P (nI r)) hz (by rw [hl.1, n_mul, nI_toInt (by omega)]; omega)
  refine ⟨σ1, ?_, q1, I1, Or.inr ⟨s8, p1⟩, hnn⟩
  unfold f_X7_utilizationZ
  rw [m_reqR hr, qb_V, c_lim I.2.1 hr, qb_I, c1, qb_P, p1.2.2.2.2.2.2.2, if_neg hz, c_work W I1.2.1, qb_I, if_pos (qn32_of hnn)]
/-! the output -/
def TxOK (σ : qS) (T : List Int32) : Prop := CT σ T ∧ okt T ∧ T.length ≤ 414
theorem m_renderTask (I : InvB σ P hs) (S : PlanSt P σ) {t : Nat} (ht : t < pn P) : ∃ σ', f_X7_renderTaskZ (nI t) σ = qan (nI (ntx P t (pn P) 0 (tt2 P t)).length) σ' ∧ Qt σ σ' ∧ InvB σ' P hs ∧ PlanSt P σ' ∧ TxOK σ' (ntx P t (pn P) 0 (tt2 P t)) := by
  have hn := I.1.1
  obtain ⟨σ1, c1, q1, I1, s8, p1⟩ := c_plan I S
  obtain ⟨σ2, e2, C2, q2⟩ := cz_renderTask I.1 I1.2.1 p1 ht
  have Q2 : Qt σ1 σ2 := Qt.of q2 (by simp)
  have g1 := ntx_len P t (pn P) 0 (tt2 P t)
  have g2 := tt2_len P t
  refine ⟨σ2, ?_, q1.trans Q2, I1.qt Q2, Or.inr ⟨by rw [q2 0 0 (by simp)]; exact s8, p1.same q2 (by simp)⟩, C2, ntx_ok P t _ _ _ (tt2_ok P t), by omega⟩
  unfold f_X7_renderTaskZ
  rw [m_reqT I ht, qb_V, c1, qb_P]
  exact e2
theorem pend_bd (W : PW P) : pend P (pn P) ≤ 138 := by
  rw [pend_le W (pn P) (Nat.le_refl _)]
  intro u hu
  have hn := W.1
  have := ((pst_spec W (pn P) (Nat.le_refl _)).2 u hu).2.1
  omega
theorem m_renderUsage (I : InvB σ P hs) (S : PlanSt P σ) {r : Nat} (hr : r < 3) : ∃ σ', f_X7_renderUsageZ (nI r) σ = qan (nI (utx P r (pend P (pn P))).length) σ' ∧ Qt σ σ' ∧ InvB σ' P hs ∧ PlanSt P σ' ∧ TxOK σ' (utx P r (pend P (pn P))) := by
  have W := I.1
  have hE := pend_bd W
  obtain ⟨σ1, c1, q1, I1, s8, p1⟩ := c_plan I S
  have q0 : qsm [23, 24] σ1 (qu σ1 23 0 1 0) := (qsm_qu σ1 23 0 1 0).mono (by simp)
  have C0 : CT (qu σ1 23 0 1 0) [] := ⟨by rw [qu_at, if_pos ⟨rfl, rfl, rfl⟩]; rfl, fun i v h => by simp at h⟩
  obtain ⟨σ3, c3, C3, q3⟩ := cz_ru_loop W hr hE (pend P (pn P)) 0 qFU (qu σ1 23 0 1 0) (by omega) (by unfold qFU; omega) (p1.same q0 (by simp)) C0
  have q3 := q0.trans q3
  have Q3 : Qt σ1 σ3 := Qt.of q3 (by simp)
  have l1 := utx_len W r (pend P (pn P))
  refine ⟨σ3, ?_, q1.trans Q3, I1.qt Q3, Or.inr ⟨by rw [q3 0 0 (by simp)]; exact s8, p1.same q3 (by simp)⟩, C3, utx_ok r _, by omega⟩
  unfold f_X7_renderUsageZ f_X3_clear
  rw [m_reqR hr, qb_V, c1, qb_P, qlet_eq, qb_V]
  exact c3
theorem m_outputAt {T : List Int32} (H : TxOK σ T) {i : Nat} {v : Int32} (hv : T[i]? = some v) : f_X7_outputAtZ (nI i) σ = qan v σ := by
  obtain ⟨⟨h1, h2⟩, h3, h4⟩ := H
  have hi : i < T.length := by
    rcases Nat.lt_or_ge i T.length with h | h
    · exact h
    · rw [List.getElem?_eq_none h] at hv; cases hv
  have ok := h3 v (List.mem_of_getElem? hv)
  obtain ⟨k, hk, rfl⟩ := i_char ok
  unfold f_X7_outputAtZ
  rw [e_isWithin, qb_I, h1, show decide ((0 : Int32) ≤ nI i ∧ nI i ≤ nI T.length - 1) = true from (e_task (by omega) _).mpr ⟨i, hi, rfl⟩, if_neg (by decide)]
  unfold f_X7_charAt
  rw [if_neg (n_ge0 (by omega)), if_neg (fun h => by rw [show Int32.ofNat (qlen 24) = nI 414 from rfl, n_le (by decide) (by omega)] at h; omega), if_pos (n_in (by show i < 414; omega) (by decide)), nI_clamp (by omega), h2 i _ hv, if_pos (qch_n hk), qb_I, if_pos (qch_n hk)]
end MZ
