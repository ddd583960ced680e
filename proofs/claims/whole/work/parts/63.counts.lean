/-! counts, lengths -/
def CaseD (w : qS → Option qO) (q : qS → Option qO) (σ : qS) : Prop := ∃ (r : Int32) (σ1 σ2 : qS), w σ = qan r σ1 ∧ q σ1 = qan r σ2 ∧ Inv σ2
section QC
variable {P : qP} {hs : List qP} {sv : qP} {σ : qS}
theorem cased {w q : qS → Option qO} {σ1 σ2 : qS} {r : Int32} (hw : w σ = qan r σ1) (I : InvB σ1 P hs sv) (S : PlanSt P σ1) (hq : q σ1 = qan r σ2) (hr : Qr σ1 σ2) : CaseD w q σ :=
  ⟨r, σ1, σ2, hw, hq, P, hs, sv, I.qt hr.qt, S.qr hr⟩
theorem k_taskCount (h : Inv σ) : CaseD f_X7_taskCount f_X8_taskCount σ := by
  obtain ⟨P, hs, sv, I, S⟩ := h
  refine cased (r := nI (pn P)) (by unfold f_X7_taskCount; rw [I.2.1.1]) I S (by unfold f_X8_taskCount; rw [qlet_eq, qu_at, if_neg (by simp), I.2.2.1.1]) (Qr.thr _ _)
theorem k_hasBaseline (h : Inv σ) : CaseD f_X7_hasBaseline f_X8_hasBaseline σ := by
  obtain ⟨P, hs, sv, I, S⟩ := h
  have hp := I.1.2.2.2.2.1
  refine cased (r := ph P) (by unfold f_X7_hasBaseline; rw [I.2.1.2.2.2, if_pos hp]) I S (by
    unfold f_X8_hasBaseline
    rw [qlet_eq, qu_at, if_neg (show ¬ (27 = 26 ∧ 0 = 0 ∧ 1 = 17) by decide), show σ 27 0 1 = ph P from I.2.2.1.2.1]
    rcases hp with hp | hp
    · rw [hp, if_neg (by decide)]
    · rw [hp, if_pos rfl]) (Qr.thr _ 0)
theorem k_projectLength (h : Inv σ) : CaseD f_X7_projectLength f_X8_projectLength σ := by
  obtain ⟨P, hs, sv, I, S⟩ := h
  have W := I.1
  obtain ⟨σ1, c1, q1, I1, s8, p1⟩ := c_plan I S
  have R1 : RepR (qu σ1 26 0 17 0) 27 0 P := I1.2.2.1.qt (Qt.thr _ _) (Or.inl rfl)
  obtain ⟨σ2, e2, q2, a2, b2⟩ := r_starts W R1
  refine cased (r := plast P (pE P)) (σ1 := σ1) (σ2 := σ2) (by unfold f_X7_projectLength; rw [c1, qb_P, p1.2.2.2.2.2.2.1]) I1 (Or.inr ⟨s8, p1⟩) ?_ ((Qr.thr _ 0).trans (Qr.of q2 (by simp)))
  unfold f_X8_projectLength
  rw [qlet_eq, e2, qb_V, r_lastOf W (R1.same q2 (by simp)) rfl, qb_I, plast_congr a2]
theorem k_levelledLength (h : Inv σ) : CaseD f_X7_levelledLength f_X8_levelledLength σ := by
  obtain ⟨P, hs, sv, I, S⟩ := h
  have W := I.1
  have hn := W.1
  obtain ⟨σ1, c1, q1, I1, s8, p1⟩ := c_plan I S
  have R1 : RepR (qu σ1 26 0 17 0) 27 0 P := I1.2.2.1.qt (Qt.thr _ _) (Or.inl rfl)
  obtain ⟨σ2, e2, q2, a2, b2, l2⟩ := r_levels W R1
  have hb : pend P (pn P) ≤ 138 := by
    rw [pend_le W (pn P) (Nat.le_refl _)]
    intro u hu
    have := ((pst_spec W (pn P) (Nat.le_refl _)).2 u hu).2.1
    omega
  refine cased (r := nI (pend P (pn P))) (σ1 := σ1) (σ2 := σ2) (by unfold f_X7_levelledLength; rw [c1, qb_P, p1.2.2.2.2.2.2.2]) I1 (Or.inr ⟨s8, p1⟩) ?_ ((Qr.thr _ 0).trans (Qr.of q2 (by simp)))
  unfold f_X8_levelledLength
  rw [qlet_eq, e2, qb_V, r_lastOf W (R1.same q2 (by simp)) rfl, qb_I, plast_congr (f' := fun t => nI (pV P t)) (fun u hu => l2.1 u hu (pst_full W hu)), pend_last W hb]
/-! how many need a task -/
theorem c_depc_loop (W : PW P) (H : Rep σ 0 P) {t : Nat} (ht : t < pn P) : ∀ (d i m : Nat) (a : Int32), i + d = pn P → d < m → l_X7_dependentCount_9 m (nI t) a (nI i) σ = qan (fo (fun o a => if ped P o t = true then a + 1 else a) d i a) σ := by
  have hn := W.1
  intro d
  induction d with
  | zero =>
    intro i m a hi hm
    obtain ⟨m, rfl⟩ : ∃ m', m = m' + 1 := ⟨m - 1, by omega⟩
    simp only [l_X7_dependentCount_9, b_X7_dependentCount_9, fo]
    rw [if_pos (by rw [H.1]; exact nI_le (by omega) (by omega))]
  | succ d ih =>
    intro i m a hi hm
    obtain ⟨m, rfl⟩ : ∃ m', m = m' + 1 := ⟨m - 1, by omega⟩
    simp only [l_X7_dependentCount_9, b_X7_dependentCount_9, fo]
    rw [if_neg (by rw [H.1]; exact nI_ge (by omega) (by omega)), c_linked H W (by omega) (by omega), qb_I, nI_1]
    cases e : ped P i t
    · rw [if_pos (by rfl), ih (i + 1) m _ (by omega) (by omega), if_neg (by decide)]
    · rw [if_neg (by decide), ih (i + 1) m _ (by omega) (by omega), if_pos rfl]
theorem r_depc_loop (W : PW P) (H : RepR σ 27 0 P) {t : Nat} (ht : t < pn P) : ∀ (d i m : Nat) (a : Int32), i + d = pn P → d < m → l_X8_dependentCount_4 m (nI t) a (nI i) σ = qan (fo (fun o a => if ped P o t = true then a + 1 else a) d i a) (qu σ 26 0 17 0) := by
  have hn := W.1
  intro d
  induction d with
  | zero =>
    intro i m a hi hm
    obtain ⟨m, rfl⟩ : ∃ m', m = m' + 1 := ⟨m - 1, by omega⟩
    simp only [l_X8_dependentCount_4, b_X8_dependentCount_4, fo]
    rw [if_pos (by rw [H.1]; exact nI_le (by omega) (by omega)), r_isT H, isT_n W ht, qb_I, r_goes, qb_I, if_neg (by decide)]
    rfl
  | succ d ih =>
    intro i m a hi hm
    obtain ⟨m, rfl⟩ : ∃ m', m = m' + 1 := ⟨m - 1, by omega⟩
    simp only [l_X8_dependentCount_4, b_X8_dependentCount_4, fo]
    rw [if_neg (by rw [H.1]; exact nI_ge (by omega) (by omega)), r_isT H, isT_n W ht, qb_I, if_neg (by decide), r_needed H W (by omega) (by omega), qb_I, nI_1]
    cases e : ped P i t
    · rw [if_pos (by rfl), Int32.add_zero, ih (i + 1) m _ (by omega) (by omega), if_neg (by decide)]
    · rw [if_neg (by decide), ih (i + 1) m _ (by omega) (by omega), if_pos rfl]
theorem r_depc_no (W : PW P) (H : RepR σ 27 0 P) {x : Int32} (hx : isT P x = false) : ∀ (d i m : Nat) (a : Int32), i + d = pn P → d < m → l_X8_dependentCount_4 m x a (nI i) σ = qan 0 (qu σ 26 0 17 1) := by
  have hn := W.1
  intro d
  induction d with
  | zero =>
    intro i m a hi hm
    obtain ⟨m, rfl⟩ : ∃ m', m = m' + 1 := ⟨m - 1, by omega⟩
    simp only [l_X8_dependentCount_4, b_X8_dependentCount_4]
    rw [if_pos (by rw [H.1]; exact nI_le (by omega) (by omega)), r_isT H, hx, qb_I, r_goes, qb_I, if_pos (by decide)]
    rfl
  | succ d ih =>
    intro i m a hi hm
    obtain ⟨m, rfl⟩ : ∃ m', m = m' + 1 := ⟨m - 1, by omega⟩
    simp only [l_X8_dependentCount_4, b_X8_dependentCount_4]
    rw [if_neg (by rw [H.1]; exact nI_ge (by omega) (by omega)), r_isT H, hx, qb_I, if_pos (by decide), nI_1]
    exact ih (i + 1) m _ (by omega) (by omega)
theorem k_dependentCount (a : Int32) (h : Inv σ) : CaseL (f_L_dependentCount a) (f_X8_dependentCount a) σ := by
  obtain ⟨P, hs, sv, I, S⟩ := h
  have W := I.1
  have H := I.2.1
  have hn := W.1
  cases hx : isT P a
  · exact casek (k := 1) (b := 0) (by decide) (by decide) (by unfold f_L_dependentCount f_X7_dependentCount; rw [c_reqT H, hx, if_neg (by decide)]; rfl) I S (r_depc_no W I.2.2.1 hx (pn P) 0 qFU 0 (by omega) (by unfold qFU; omega)) (thr_at _ _) (Qr.thr _ _)
  · obtain ⟨t, ht, rfl⟩ := (isT_iff W).mp hx
    refine case0 (σ1 := σ) ?_ I S (r_depc_loop W (I.out _).2.2.1 ht (pn P) 0 qFU 0 (by omega) (by unfold qFU; omega)) (thr_at _ _) (Qr.thr _ _)
    unfold f_L_dependentCount f_X7_dependentCount
    rw [c_reqT H, hx, if_pos rfl, qb_V, show (0 : Int32) = nI 0 from rfl, c_depc_loop W H ht (pn P) 0 qFU _ (by omega) (by unfold qFU; omega)]
    rfl
/-! critical tasks -/
theorem c_crit_loop (W : PW P) (H : Rep σ 0 P) (p1 : PlanOK P σ) : ∀ (d i m : Nat) (a : Int32), i + d = pn P → d < m → l_X7_criticalCount_9 m a (nI i) σ = qan (fo (fun t a => if pL P t = pE P t then a + 1 else a) d i a) σ := by
  have hn := W.1
  intro d
  induction d with
  | zero =>
    intro i m a hi hm
    obtain ⟨m, rfl⟩ : ∃ m', m = m' + 1 := ⟨m - 1, by omega⟩
    simp only [l_X7_criticalCount_9, b_X7_criticalCount_9, fo]
    rw [if_pos (by rw [H.1]; exact nI_le (by omega) (by omega))]
  | succ d ih =>
    intro i m a hi hm
    obtain ⟨m, rfl⟩ : ∃ m', m = m' + 1 := ⟨m - 1, by omega⟩
    simp only [l_X7_criticalCount_9, b_X7_criticalCount_9, fo]
    rw [if_neg (by rw [H.1]; exact nI_ge (by omega) (by omega)), e_slack p1 W (by omega), qb_I, nI_1]
    by_cases e : pL P i = pE P i
    · rw [if_pos (i_sub0.mpr e), ih (i + 1) m _ (by omega) (by omega), if_pos e]
    · rw [if_neg (fun h => e (i_sub0.mp h)), ih (i + 1) m _ (by omega) (by omega), if_neg e]
theorem r_crit_loop (W : PW P) (H : RepR σ 27 0 P) (h31 : ∀ t, t < pn P → σ 31 0 t = pE P t) (h32 : ∀ t, t < pn P → σ 32 0 t = pL P t) : ∀ (d i m : Nat) (a : Int32), i + d = pn P → d < m → l_X8_criticalCount_13 m a (nI i) σ = qan (fo (fun t a => if pL P t = pE P t then a + 1 else a) d i a) σ := by
  have hn := W.1
  intro d
  induction d with
  | zero =>
    intro i m a hi hm
    obtain ⟨m, rfl⟩ : ∃ m', m = m' + 1 := ⟨m - 1, by omega⟩
    simp only [l_X8_criticalCount_13, b_X8_criticalCount_13, fo]
    rw [if_pos (by rw [H.1]; exact nI_le (by omega) (by omega))]
  | succ d ih =>
    intro i m a hi hm
    obtain ⟨m, rfl⟩ : ∃ m', m = m' + 1 := ⟨m - 1, by omega⟩
    have hq : qin (nI i) 12 := n_in (by omega) (by decide)
    simp only [l_X8_criticalCount_13, b_X8_criticalCount_13, fo]
    rw [if_neg (by rw [H.1]; exact nI_ge (by omega) (by omega)), if_pos hq, if_pos hq, nI_clamp (by omega), h31 i (by omega), h32 i (by omega), nI_1]
    by_cases e : pL P i = pE P i
    · rw [if_pos e, ih (i + 1) m _ (by omega) (by omega), if_pos e]
    · rw [if_neg e, Int32.add_zero, ih (i + 1) m _ (by omega) (by omega), if_neg e]
theorem k_criticalCount (h : Inv σ) : CaseD f_X7_criticalCount f_X8_criticalCount σ := by
  obtain ⟨P, hs, sv, I, S⟩ := h
  have W := I.1
  have hn := W.1
  obtain ⟨σ1, c1, q1, I1, s8, p1⟩ := c_plan I S
  have R1 : RepR (qu σ1 26 0 17 0) 27 0 P := I1.2.2.1.qt (Qt.thr _ _) (Or.inl rfl)
  obtain ⟨σ2, e2, q2, a2, b2⟩ := r_starts W R1
  refine cased (σ1 := σ1) (σ2 := σ2) (by unfold f_X7_criticalCount; rw [c1, qb_P]; exact c_crit_loop W I1.2.1 p1 (pn P) 0 qFU 0 (by omega) (by unfold qFU; omega)) I1 (Or.inr ⟨s8, p1⟩) ?_ ((Qr.thr _ 0).trans (Qr.of q2 (by simp)))
  unfold f_X8_criticalCount
  rw [qlet_eq, e2, qb_V]
  exact r_crit_loop W (R1.same q2 (by simp)) a2 b2 (pn P) 0 qFU 0 (by omega) (by unfold qFU; omega)
/-! the work of a resource -/
theorem c_work_loop {j : Nat} (W : PW P) (H : Rep σ j P) (x : Int32) : ∀ (d i m : Nat) (a : Int32), i + d = pn P → d < m → l_X5_workOf_4 j m x a (nI i) σ = qan (fo (fun t a => if pf P 1 t = x then a + pf P 0 t * pf P 2 t else a) d i a) σ := by
  have hn := W.1
  intro d
  induction d with
  | zero =>
    intro i m a hi hm
    obtain ⟨m, rfl⟩ : ∃ m', m = m' + 1 := ⟨m - 1, by omega⟩
    simp only [l_X5_workOf_4, b_X5_workOf_4, fo]
    rw [if_pos (by rw [H.1]; exact nI_le (by omega) (by omega))]
  | succ d ih =>
    intro i m a hi hm
    obtain ⟨m, rfl⟩ : ∃ m', m = m' + 1 := ⟨m - 1, by omega⟩
    simp only [l_X5_workOf_4, b_X5_workOf_4, fo]
    rw [if_neg (by rw [H.1]; exact nI_ge (by omega) (by omega)), c_res H W (by omega), qb_I, nI_1]
    by_cases e : pf P 1 i = x
    · rw [if_pos e, c_dur H W (by omega), qb_I, c_dem H W (by omega), qb_I, ih (i + 1) m _ (by omega) (by omega), if_pos e]
    · rw [if_neg e, ih (i + 1) m _ (by omega) (by omega), if_neg e]
def pwork (P : qP) (x : Int32) : Int32 := fo (fun t a => if pf P 1 t = x then a + pf P 0 t * pf P 2 t else a) (pn P) 0 0
theorem c_work {j : Nat} (W : PW P) (H : Rep σ j P) (x : Int32) : f_X5_workOf j x σ = qan (pwork P x) σ := by
  have hn := W.1
  exact c_work_loop W H x (pn P) 0 qFU 0 (by omega) (by unfold qFU; omega)
theorem r_work_loop (W : PW P) (H : RepR σ 27 0 P) (x : Int32) : ∀ (d i m : Nat) (a : Int32), i + d = pn P → d < m → l_X8_work_4 m x a (nI i) σ = qan (if isR x = true then fo (fun t a => if pf P 1 t = x then a + pf P 0 t * pf P 2 t else a) d i a else 0) (qu σ 26 0 17 (if isR x = true then 0 else 1)) := by
  have hn := W.1
  intro d
  induction d with
  | zero =>
    intro i m a hi hm
    obtain ⟨m, rfl⟩ : ∃ m', m = m' + 1 := ⟨m - 1, by omega⟩
    simp only [l_X8_work_4, b_X8_work_4, fo]
    rw [if_pos (by rw [H.1]; exact nI_le (by omega) (by omega)), r_isR, qb_I, r_goes, qb_I]
    cases isR x <;> rfl
  | succ d ih =>
    intro i m a hi hm
    obtain ⟨m, rfl⟩ : ∃ m', m = m' + 1 := ⟨m - 1, by omega⟩
    simp only [l_X8_work_4, b_X8_work_4, fo]
    rw [if_neg (by rw [H.1]; exact nI_ge (by omega) (by omega)), r_res H W (by omega), qb_I, nI_1]
    by_cases e : pf P 1 i = x
    · rw [if_pos e, r_dur H W (by omega), qb_I, r_dem H W (by omega), qb_I, ih (i + 1) m _ (by omega) (by omega), if_pos e]
    · rw [if_neg e, Int32.add_zero, ih (i + 1) m _ (by omega) (by omega), if_neg e]
theorem r_work (W : PW P) (H : RepR σ 27 0 P) (x : Int32) : f_X8_work x σ = qan (if isR x = true then pwork P x else 0) (qu σ 26 0 17 (if isR x = true then 0 else 1)) := by
  have hn := W.1
  exact r_work_loop W H x (pn P) 0 qFU 0 (by omega) (by unfold qFU; omega)
theorem k_workload (a : Int32) (h : Inv σ) : CaseL (f_L_workload a) (f_X8_workload a) σ := by
  obtain ⟨P, hs, sv, I, S⟩ := h
  have W := I.1
  have H := I.2.1
  cases hx : isR a
  · exact casek (k := 1) (b := 0) (by decide) (by decide) (by unfold f_L_workload f_X7_workload; rw [c_reqR, hx, if_neg (by decide)]; rfl) I S (by unfold f_X8_workload; rw [r_work W I.2.2.1, hx, qb_I]; rfl) (thr_at _ _) (Qr.thr _ _)
  · exact case0 (r := pwork P a) (by unfold f_L_workload f_X7_workload; rw [c_reqR, hx, if_pos rfl, qb_V, c_work W H]; rfl) I S (by unfold f_X8_workload; rw [r_work W (I.out _).2.2.1, hx, qb_I]; rfl) (thr_at _ _) (Qr.thr _ 0)
end QC
