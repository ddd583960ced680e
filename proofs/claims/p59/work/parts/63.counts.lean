/-! counts, lengths -/
section QC
variable {P : qP} {hs : List qP} {sv : qP} {σ : qS}
/-! how many need a task -/
theorem c_depc_loop (W : PW P) (H : Rep σ 0 P) {t : Nat} (ht : t < pn P) : ∀ (d i m : Nat) (a : Int32), i + d = pn P → d < m → l_X7_dependentCount_9 m (nI t) a (nI i) σ = qan (fo (fun o a => if ped P o t = true then a + 1 else a) d i a) σ := by
  have hn := W.1
  intro d
  induction d with
  | zero =>
    intro i m a hi hm
    obtain ⟨m, rfl⟩ : ∃ m', m = m' + 1 := ⟨m - 1, by omega⟩
    simp only [l_X7_dependentCount_9, b_X7_dependentCount_9, fo]
    rw [if_pos (by rw [H.1]; exact nI_le (by omega) (by omega))]
  | succ d ih =>
    intro i m a hi hm
    obtain ⟨m, rfl⟩ : ∃ m', m = m' + 1 := ⟨m - 1, by omega⟩
    simp only [l_X7_dependentCount_9, b_X7_dependentCount_9, fo]
    rw [if_neg (by rw [H.1]; exact nI_ge (by omega) (by omega)), c_linked H W (by omega) (by omega), qb_I, nI_1]
    cases e : ped P i t
    · rw [if_pos (by rfl), ih (i + 1) m _ (by omega) (by omega), if_neg (by decide)]
    · rw [if_neg (by decide), ih (i + 1) m _ (by omega) (by omega), if_pos rfl]
/-! critical tasks -/
theorem c_crit_loop (W : PW P) (H : Rep σ 0 P) (p1 : PlanOK P σ) : ∀ (d i m : Nat) (a : Int32), i + d = pn P → d < m → l_X7_criticalCount_9 m a (nI i) σ = qan (fo (fun t a => if pL P t = pE P t then a + 1 else a) d i a) σ := by
  have hn := W.1
  intro d
  induction d with
  | zero =>
    intro i m a hi hm
    obtain ⟨m, rfl⟩ : ∃ m', m = m' + 1 := ⟨m - 1, by omega⟩
    simp only [l_X7_criticalCount_9, b_X7_criticalCount_9, fo]
    rw [if_pos (by rw [H.1]; exact nI_le (by omega) (by omega))]
  | succ d ih =>
    intro i m a hi hm
    obtain ⟨m, rfl⟩ : ∃ m', m = m' + 1 := ⟨m - 1, by omega⟩
    simp only [l_X7_criticalCount_9, b_X7_criticalCount_9, fo]
    rw [if_neg (by rw [H.1]; exact nI_ge (by omega) (by omega)), e_slack p1 W (by omega), qb_I, nI_1]
    by_cases e : pL P i = pE P i
    · rw [if_pos (i_sub0.mpr e), ih (i + 1) m _ (by omega) (by omega), if_pos e]
    · rw [if_neg (fun h => e (i_sub0.mp h)), ih (i + 1) m _ (by omega) (by omega), if_neg e]
/-! the work of a resource -/
theorem c_work_loop {j : Nat} (W : PW P) (H : Rep σ j P) (x : Int32) : ∀ (d i m : Nat) (a : Int32), i + d = pn P → d < m → l_X5_workOf_4 j m x a (nI i) σ = qan (fo (fun t a => if pf P 1 t = x then a + pf P 0 t * pf P 2 t else a) d i a) σ := by
  have hn := W.1
  intro d
  induction d with
  | zero =>
    intro i m a hi hm
    obtain ⟨m, rfl⟩ : ∃ m', m = m' + 1 := ⟨m - 1, by omega⟩
    simp only [l_X5_workOf_4, b_X5_workOf_4, fo]
    rw [if_pos (by rw [H.1]; exact nI_le (by omega) (by omega))]
  | succ d ih =>
    intro i m a hi hm
    obtain ⟨m, rfl⟩ : ∃ m', m = m' + 1 := ⟨m - 1, by omega⟩
    simp only [l_X5_workOf_4, b_X5_workOf_4, fo]
    rw [if_neg (by rw [H.1]; exact nI_ge (by omega) (by omega)), c_res H W (by omega), qb_I, nI_1]
    by_cases e : pf P 1 i = x
    · rw [if_pos e, c_dur H W (by omega), qb_I, c_dem H W (by omega), qb_I, ih (i + 1) m _ (by omega) (by omega), if_pos e]
    · rw [if_neg e, ih (i + 1) m _ (by omega) (by omega), if_neg e]
def pwork (P : qP) (x : Int32) : Int32 := fo (fun t a => if pf P 1 t = x then a + pf P 0 t * pf P 2 t else a) (pn P) 0 0
theorem c_work {j : Nat} (W : PW P) (H : Rep σ j P) (x : Int32) : f_X5_workOf j x σ = qan (pwork P x) σ := by
  have hn := W.1
  exact c_work_loop W H x (pn P) 0 qFU 0 (by omega) (by unfold qFU; omega)
end QC

