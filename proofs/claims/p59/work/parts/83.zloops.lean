/-! the loops once more, where nothing is thrown -/
section QZ
variable {P : qP} {hs : List qP} {σ σ1 : qS} {A B : Nat → Int}
theorem cz_depc_loop (W : PW P) (H : Rep σ 0 P) {t : Nat} (ht : t < pn P) : ∀ (d i m : Nat) (a : Int32), i + d = pn P → d < m → l_X7_dependentCountZ_9 m (nI t) a (nI i) σ = qan (fo (fun o a => if ped P o t = true then a + 1 else a) d i a) σ := by
  have hn := W.1
  intro d
  induction d with
  | zero =>
    intro i m a hi hm
    obtain ⟨m, rfl⟩ : ∃ m', m = m' + 1 := ⟨m - 1, by omega⟩
    simp only [l_X7_dependentCountZ_9, b_X7_dependentCountZ_9, fo]
    rw [if_pos (by rw [H.1]; exact nI_le (by omega) (by omega))]
  | succ d ih =>
    intro i m a hi hm
    obtain ⟨m, rfl⟩ : ∃ m', m = m' + 1 := ⟨m - 1, by omega⟩
    simp only [l_X7_dependentCountZ_9, b_X7_dependentCountZ_9, fo]
    rw [if_neg (by rw [H.1]; exact nI_ge (by omega) (by omega)), c_linked H W (by omega) (by omega), qb_I, nI_1]
    cases e : ped P i t
    · rw [if_pos (by rfl), ih (i + 1) m _ (by omega) (by omega), if_neg (by decide)]
    · rw [if_neg (by decide), ih (i + 1) m _ (by omega) (by omega), if_pos rfl]
theorem cz_rank_loop (W : PW P) (H : Rep σ 0 P) (K : KeyOK P A B σ) (hB : ∀ t, t < pn P → 0 ≤ B t ∧ B t ≤ 9) (x : Int32) : ∀ (d i m : Nat), i + d = pn P → d < m → l_X7_taskAtRankZ_2 m x (nI i) σ = if gfs (rkq P A B x) d i = pn P then none else qan (nI (gfs (rkq P A B x) d i)) σ := by
  have hn := W.1
  intro d
  induction d with
  | zero =>
    intro i m hi hm
    obtain ⟨m, rfl⟩ : ∃ m', m = m' + 1 := ⟨m - 1, by omega⟩
    simp only [l_X7_taskAtRankZ_2, b_X7_taskAtRankZ_2]
    rw [if_pos (by rw [H.1]; exact nI_le (by omega) (by omega)), show gfs (rkq P A B x) 0 i = i from rfl, if_pos (by omega)]
  | succ d ih =>
    intro i m hi hm
    obtain ⟨m, rfl⟩ : ∃ m', m = m' + 1 := ⟨m - 1, by omega⟩
    have hg : gfs (rkq P A B x) (d + 1) i = if rkq P A B x i = true then i else gfs (rkq P A B x) d (i + 1) := rfl
    simp only [l_X7_taskAtRankZ_2, b_X7_taskAtRankZ_2]
    unfold f_X7_countBefore
    rw [if_neg (by rw [H.1]; exact nI_ge (by omega) (by omega)), e_at (show i < 12 by omega) (by decide), qb_I]
    have cb := c_cb_loop W H K hB (show i < pn P by omega) (pn P) 0 qFU (by omega) (by unfold qFU; omega)
    rw [show nI (gcnt (fun w => rb A B w i) 0) = (0 : Int32) from rfl, show nI 0 = (0 : Int32) from rfl] at cb
    rw [cb, qb_I, nI_1]
    by_cases e : nI (rkc A B (pn P) i) = x
    · rw [show rkq P A B x i = true from decide_eq_true e, if_pos rfl] at hg
      rw [if_pos e, hg, if_neg (by omega)]
    · rw [show rkq P A B x i = false from decide_eq_false e, if_neg (show ¬ false = true by decide)] at hg
      rw [if_neg e, hg]
      exact ih (i + 1) m (by omega) (by omega)
theorem cz_rank (W : PW P) (H : Rep σ 0 P) (K : KeyOK P A B σ) (hB : ∀ t, t < pn P → 0 ≤ B t ∧ B t ≤ 9) (x : Int32) : f_X7_taskAtRankZ x σ = if gfs (rkq P A B x) (pn P) 0 = pn P then none else qan (nI (gfs (rkq P A B x) (pn P) 0)) σ := by
  have hn := W.1
  exact cz_rank_loop W H K hB x (pn P) 0 qFU (by omega) (by unfold qFU; omega)
theorem cz_bySlack_loop (W : PW P) (x : Int32) : ∀ (d i m : Nat) (σ : qS), i + d = pn P → d < m → Rep σ 0 P → PlanOK P σ → (∀ t, t < i → (σ 25 0 t).toInt = 10 * ((pL P t).toInt - (pE P t).toInt) - (pf P 0 t).toInt) → ∃ σ', qsm [25] σ σ' ∧ l_X7_taskBySlackZ_7 m x (nI i) σ = qbind (f_X7_taskAtRankZ x σ') (qvI (fun r1 s2 => (some (.inl (some (qI r1)), s2)))) qE0 ∧ KeyOK P (fun t => (pL P t).toInt - (pE P t).toInt) (fun t => (pf P 0 t).toInt) σ' ∧ Rep σ' 0 P ∧ PlanOK P σ' := by
  have hn := W.1
  intro d
  induction d with
  | zero =>
    intro i m σ hi hm H p1 K
    obtain ⟨m, rfl⟩ : ∃ m', m = m' + 1 := ⟨m - 1, by omega⟩
    refine ⟨σ, qsm.refl _ σ, ?_, fun t ht => K t (by omega), H, p1⟩
    simp only [l_X7_taskBySlackZ_7, b_X7_taskBySlackZ_7]
    rw [if_pos (by rw [H.1]; exact nI_le (by omega) (by omega))]
  | succ d ih =>
    intro i m σ hi hm H p1 K
    obtain ⟨m, rfl⟩ : ∃ m', m = m' + 1 := ⟨m - 1, by omega⟩
    have hi2 : i < pn P := by omega
    have l1 := pL_bd W hi2
    have l2 := pE_small W hi2
    have l3 := (W.2.1 i hi2).1
    have e1 : (pL P i - pE P i).toInt = (pL P i).toInt - (pE P i).toInt := i_sub (by omega) (by omega) (by omega) (by omega)
    have e2 := i_key (a := pL P i - pE P i) (b := pf P 0 i) (by omega) (by omega) (by omega) (by omega)
    obtain ⟨σ', q, e, r⟩ := ih (i + 1) m (qu σ 25 0 i ((10 : Int32) * (pL P i - pE P i) - pf P 0 i)) (by omega) (by omega) (H.same (qsm_qu σ 25 0 i _) (by simp)) (p1.same (qsm_qu σ 25 0 i _) (by simp)) (fun t ht => by
      rw [qu_at]
      by_cases h : t = i
      · rw [if_pos ⟨rfl, rfl, h⟩, e2, e1, h]
      · rw [if_neg (fun hh => h hh.2.2)]
        exact K t (by omega))
    refine ⟨σ', (qsm_qu σ 25 0 i _).trans q, ?_, r⟩
    simp only [l_X7_taskBySlackZ_7, b_X7_taskBySlackZ_7]
    rw [if_neg (by rw [H.1]; exact nI_ge (by omega) (by omega)), e_slack p1 W hi2, qb_I, c_dur H W hi2, qb_I]
    unfold f_X7_sortingKey
    rw [qb_I, e_put (show i < 12 by omega) (by decide), qb_V, nI_1]
    exact e
theorem cz_byStart_loop (W : PW P) (x : Int32) : ∀ (d i m : Nat) (σ : qS), i + d = pn P → d < m → Rep σ 0 P → PlanOK P σ → (∀ t, t < i → (σ 25 0 t).toInt = 10 * (pV P t : Int) - (pf P 2 t).toInt) → ∃ σ', qsm [25] σ σ' ∧ l_X7_taskByStartZ_7 m x (nI i) σ = qbind (f_X7_taskAtRankZ x σ') (qvI (fun r1 s2 => (some (.inl (some (qI r1)), s2)))) qE0 ∧ KeyOK P (fun t => (pV P t : Int)) (fun t => (pf P 2 t).toInt) σ' ∧ Rep σ' 0 P ∧ PlanOK P σ' := by
  have hn := W.1
  intro d
  induction d with
  | zero =>
    intro i m σ hi hm H p1 K
    obtain ⟨m, rfl⟩ : ∃ m', m = m' + 1 := ⟨m - 1, by omega⟩
    refine ⟨σ, qsm.refl _ σ, ?_, fun t ht => K t (by omega), H, p1⟩
    simp only [l_X7_taskByStartZ_7, b_X7_taskByStartZ_7]
    rw [if_pos (by rw [H.1]; exact nI_le (by omega) (by omega))]
  | succ d ih =>
    intro i m σ hi hm H p1 K
    obtain ⟨m, rfl⟩ : ∃ m', m = m' + 1 := ⟨m - 1, by omega⟩
    have hi2 : i < pn P := by omega
    have l1 := pV_le W hi2
    have l3 := (W.2.1 i hi2).2.2.1
    have e1 : (nI (pV P i)).toInt = (pV P i : Int) := nI_toInt (by omega)
    have e2 := i_key (a := nI (pV P i)) (b := pf P 2 i) (by omega) (by omega) (by omega) (by omega)
    obtain ⟨σ', q, e, r⟩ := ih (i + 1) m (qu σ 25 0 i ((10 : Int32) * nI (pV P i) - pf P 2 i)) (by omega) (by omega) (H.same (qsm_qu σ 25 0 i _) (by simp)) (p1.same (qsm_qu σ 25 0 i _) (by simp)) (fun t ht => by
      rw [qu_at]
      by_cases h : t = i
      · rw [if_pos ⟨rfl, rfl, h⟩, e2, e1, h]
      · rw [if_neg (fun hh => h hh.2.2)]
        exact K t (by omega))
    refine ⟨σ', (qsm_qu σ 25 0 i _).trans q, ?_, r⟩
    simp only [l_X7_taskByStartZ_7, b_X7_taskByStartZ_7]
    rw [if_neg (by rw [H.1]; exact nI_ge (by omega) (by omega)), e_at (show i < 12 by omega) (by decide), qb_I, p1.2.2.2.2.2.1.1 i hi2 (pst_full W hi2), c_dem H W hi2, qb_I]
    unfold f_X7_sortingKey
    rw [qb_I, e_put (show i < 12 by omega) (by decide), qb_V, nI_1]
    exact e
theorem cz_byTasks_loop {r d : Nat} (hr : r < 3) (hd : d < 2 ^ 31) : ∀ (e i m : Nat) (σ : qS), i + e = pn P → e < m → InvB σ P hs → PlanSt P σ → ∃ σ', l_X7_usageByTasksZ_13 m (nI r) (nI d) (nI (gsum (fun t => if prn P t = r ∧ pwd P t d = true then pmn P t else 0) i)) (nI i) σ = qan (nI (gsum (fun t => if prn P t = r ∧ pwd P t d = true then pmn P t else 0) (pn P))) σ' ∧ Qt σ σ' ∧ InvB σ' P hs ∧ PlanSt P σ' := by
  intro e
  induction e with
  | zero =>
    intro i m σ hi hm I S
    obtain ⟨m, rfl⟩ : ∃ m', m = m' + 1 := ⟨m - 1, by omega⟩
    have hn := I.1.1
    have hi : i = pn P := by omega
    subst hi
    refine ⟨σ, ?_, Qt.refl σ, I, S⟩
    simp only [l_X7_usageByTasksZ_13, b_X7_usageByTasksZ_13]
    rw [if_pos (by rw [I.2.1.1]; exact Int32.le_refl _)]
  | succ e ih =>
    intro i m σ hi hm I S
    obtain ⟨m, rfl⟩ : ∃ m', m = m' + 1 := ⟨m - 1, by omega⟩
    have W := I.1
    have hn := W.1
    have hg := gsum_last (fun t => if prn P t = r ∧ pwd P t d = true then pmn P t else 0) i
    simp only [l_X7_usageByTasksZ_13, b_X7_usageByTasksZ_13]
    rw [if_neg (by rw [I.2.1.1]; exact nI_ge (by omega) (by omega)), c_res I.2.1 W (by omega), qb_I, (W.rn (show i < pn P by omega)).1, nI_1]
    by_cases hp : prn P i = r
    · obtain ⟨σ1, e1, Q1, I1, S1⟩ := c_worked I S (show i < pn P by omega) hd
      rw [if_pos (by rw [hp]), e1, qb_I]
      cases hw : pwd P i d
      · rw [if_pos (by rfl)]
        have := ih (i + 1) m σ1 (by omega) (by omega) I1 S1
        rw [hg, if_neg (show ¬ (prn P i = r ∧ pwd P i d = true) by rw [hw]; simp), Nat.add_zero] at this
        exact qt_tr Q1 this
      · rw [if_neg (by decide), c_dem I1.2.1 W (by omega), qb_I, (W.mn (show i < pn P by omega)).1, nI_add]
        have := ih (i + 1) m σ1 (by omega) (by omega) I1 S1
        rw [hg, if_pos (show prn P i = r ∧ pwd P i d = true from ⟨hp, hw⟩)] at this
        exact qt_tr Q1 this
    · rw [if_neg (fun h => hp ((n_eq (by have := (W.rn (show i < pn P by omega)).2; omega) (by omega)).mp h))]
      have := ih (i + 1) m σ (by omega) (by omega) I S
      rw [hg, if_neg (show ¬ (prn P i = r ∧ pwd P i d = true) from fun h => hp h.1), Nat.add_zero] at this
      exact this
theorem cz_tasksOn_loop {d : Nat} (hd : d < 2 ^ 31) : ∀ (e i m : Nat) (a : Int32) (σ : qS), i + e = pn P → e < m → InvB σ P hs → PlanSt P σ → ∃ σ', l_X7_tasksOnZ_8 m (nI d) a (nI i) σ = qan (fo (fun t a => if pwd P t d = true then a + 1 else a) e i a) σ' ∧ Qt σ σ' ∧ InvB σ' P hs ∧ PlanSt P σ' := by
  intro e
  induction e with
  | zero =>
    intro i m a σ hi hm I S
    obtain ⟨m, rfl⟩ : ∃ m', m = m' + 1 := ⟨m - 1, by omega⟩
    have hn := I.1.1
    refine ⟨σ, ?_, Qt.refl σ, I, S⟩
    simp only [l_X7_tasksOnZ_8, b_X7_tasksOnZ_8]
    rw [if_pos (by rw [I.2.1.1]; exact nI_le (by omega) (by omega))]
    rfl
  | succ e ih =>
    intro i m a σ hi hm I S
    obtain ⟨m, rfl⟩ : ∃ m', m = m' + 1 := ⟨m - 1, by omega⟩
    have W := I.1
    have hn := W.1
    obtain ⟨σ1, e1, Q1, I1, S1⟩ := c_worked I S (show i < pn P by omega) hd
    simp only [l_X7_tasksOnZ_8, b_X7_tasksOnZ_8, fo]
    rw [if_neg (by rw [I.2.1.1]; exact nI_ge (by omega) (by omega)), e1, qb_I, nI_1]
    cases hw : pwd P i d
    · rw [if_pos (by rfl), if_neg (by decide)]
      exact qt_tr Q1 (ih (i + 1) m a σ1 (by omega) (by omega) I1 S1)
    · rw [if_neg (by decide), if_pos rfl]
      exact qt_tr Q1 (ih (i + 1) m _ σ1 (by omega) (by omega) I1 S1)
theorem cz_peak_loop (W : PW P) (p1 : PlanOK P σ) {r : Nat} (hr : r < 3) : ∀ (e i m : Nat) (a : Int32), i + e = 138 → e < m → l_X7_peakUsageZ_14 m (nI r) a (nI i) σ = qan (fo (fun d a => qmax a (nI (pUf P r d))) e i a) σ := by
  intro e
  induction e with
  | zero =>
    intro i m a hi hm
    obtain ⟨m, rfl⟩ : ∃ m', m = m' + 1 := ⟨m - 1, by omega⟩
    simp only [l_X7_peakUsageZ_14, b_X7_peakUsageZ_14, fo]
    rw [if_pos (by rw [show (138 : Int32) = nI 138 from rfl]; exact nI_le (by omega) (by omega))]
  | succ e ih =>
    intro i m a hi hm
    obtain ⟨m, rfl⟩ : ∃ m', m = m' + 1 := ⟨m - 1, by omega⟩
    simp only [l_X7_peakUsageZ_14, b_X7_peakUsageZ_14, fo]
    rw [if_neg (by rw [show (138 : Int32) = nI 138 from rfl]; exact nI_ge (by omega) (by omega)), c_usedOn W p1 hr (by omega), qb_I, nI_1]
    exact ih (i + 1) m _ (by omega) (by omega)
theorem cz_mean_loop (W : PW P) (p1 : PlanOK P σ) (h0 : 0 < pn P) : ∀ (d i m : Nat) (a : Int32), i + d = pn P → d < m → l_X7_meanSlackZ_32 m (nI (pn P)) a (nI i) σ = some (.inl (some (.inl (.double (FP.ddiv (FP.i2d (pslk P d i a)) (FP.i2d (nI (pn P))))))), σ) := by
  have hn := W.1
  intro d
  induction d with
  | zero =>
    intro i m a hi hm
    obtain ⟨m, rfl⟩ : ∃ m', m = m' + 1 := ⟨m - 1, by omega⟩
    simp only [l_X7_meanSlackZ_32, b_X7_meanSlackZ_32]
    rw [if_pos (nI_le (by omega) (by omega)), if_pos (qn64_div a (fun h => by rw [show (0 : Int32) = nI 0 from rfl, n_eq (by omega) (by omega)] at h; omega))]
    rfl
  | succ d ih =>
    intro i m a hi hm
    obtain ⟨m, rfl⟩ : ∃ m', m = m' + 1 := ⟨m - 1, by omega⟩
    simp only [l_X7_meanSlackZ_32, b_X7_meanSlackZ_32]
    rw [if_neg (nI_ge (by omega) (by omega)), e_slack p1 W (by omega), qb_I, nI_1]
    exact ih (i + 1) m _ (by omega) (by omega)
theorem cz_nt_loop (W : PW P) {t : Nat} (ht : t < pn P) : ∀ (d i m : Nat) (T : List Int32) (σ : qS), i + d = pn P → d < m → Rep σ 0 P → CT σ T → T.length + 4 * d ≤ 414 → ∃ σ', l_X7_renderTaskZ_149 m (nI t) (nI i) σ = qan (nI (ntx P t d i T).length) σ' ∧ CT σ' (ntx P t d i T) ∧ qsm [23, 24] σ σ' := by
  have hn := W.1
  intro d
  induction d with
  | zero =>
    intro i m T σ hi hm H C hT
    obtain ⟨m, rfl⟩ : ∃ m', m = m' + 1 := ⟨m - 1, by omega⟩
    refine ⟨σ, ?_, C, qsm.refl _ σ⟩
    simp only [l_X7_renderTaskZ_149, b_X7_renderTaskZ_149]
    rw [if_pos (by rw [H.1]; exact nI_le (by omega) (by omega)), C.1]
    rfl
  | succ d ih =>
    intro i m T σ hi hm H C hT
    obtain ⟨m, rfl⟩ : ∃ m', m = m' + 1 := ⟨m - 1, by omega⟩
    have g := dgs_len i
    have hx : ntx P t (d + 1) i T = ntx P t d (i + 1) (if ped P t i = true then T ++ [nI 60] ++ dgs i else T) := rfl
    rw [l_X7_renderTaskZ_149]
    unfold b_X7_renderTaskZ_149
    rw [if_neg (by rw [H.1]; exact nI_ge (by omega) (by omega)), c_linked H W ht (by omega), qb_I, nI_1, hx]
    by_cases e : ped P t i = true
    · obtain ⟨σ1, e1, C1, q1⟩ := c_wr C (by omega) (show 60 ≤ 126 by decide)
      obtain ⟨σ2, e2, C2, q2⟩ := c_wn C1 (k := i) (by simp only [List.length_append, List.length_cons, List.length_nil]; omega) (by omega)
      obtain ⟨σ3, e3, C3, q3⟩ := ih (i + 1) m _ σ2 (by omega) (by omega) ((H.same q1 (by simp)).same q2 (by simp)) C2 (by simp only [List.length_append, List.length_cons, List.length_nil]; omega)
      rw [e, if_neg (by decide), if_pos rfl]
      refine ⟨σ3, ?_, C3, (q1.trans q2).trans q3⟩
      show qbind (f_X3_write (nI 60) σ) _ _ = _
      rw [e1, qb_V, e2, qb_V]
      exact e3
    · rw [if_neg e]
      have e : ped P t i = false := by simpa using e
      rw [e, if_pos (by rfl)]
      exact ih (i + 1) m T σ (by omega) (by omega) H C (by omega)
theorem cz_renderTask (W : PW P) (H : Rep σ1 0 P) (p1 : PlanOK P σ1) {t : Nat} (ht : t < pn P) : ∃ σ', qbind (f_X3_clear σ1) (qvV (fun s3 =>
  qbind (f_X3_writeNumber (nI t) s3) (qvV (fun s4 =>
  qbind (f_X3_write (58 : Int32) s4) (qvV (fun s5 =>
  qbind (f_X7_at 2 0 (nI t) s5) (qvI (fun r1 s6 =>
  qbind (f_X3_writeNumber r1 s6) (qvV (fun s7 =>
  qbind (f_X3_write (120 : Int32) s7) (qvV (fun s8 =>
  qbind (f_X7_at 4 0 (nI t) s8) (qvI (fun r2 s9 =>
  qbind (f_X3_writeNumber r2 s9) (qvV (fun s10 =>
  qbind (f_X3_write (114 : Int32) s10) (qvV (fun s11 =>
  qbind (f_X7_at 3 0 (nI t) s11) (qvI (fun r3 s12 =>
  qbind (f_X3_writeNumber r3 s12) (qvV (fun s13 =>
  qbind (f_X3_write (64 : Int32) s13) (qvV (fun s14 =>
  qbind (f_X7_at 17 0 (nI t) s14) (qvI (fun r4 s15 =>
  qbind (f_X3_writeNumber r4 s15) (qvV (fun s16 =>
  qbind (f_X4_slackOf (nI t) s16) (qvI (fun r5 s17 =>
  (if r5 = 0 then qbind (f_X3_write (33 : Int32) s17) (qvV (fun s18 =>
  l_X7_renderTaskZ_149  qFU (nI t) (0 : Int32) s18)) qE0 else
  l_X7_renderTaskZ_149  qFU (nI t) (0 : Int32) s17))) qE0)) qE0)) qE0)) qE0)) qE0)) qE0)) qE0)) qE0)) qE0)) qE0)) qE0)) qE0)) qE0)) qE0)) qE0 = qan (nI (ntx P t (pn P) 0 (tt2 P t)).length) σ' ∧ CT σ' (ntx P t (pn P) 0 (tt2 P t)) ∧ qsm [23, 24] σ1 σ' := by
  have hn := W.1
  have hv := pV_le W ht
  have g1 := dgs_len t
  have g2 := dgs_len (pdn P t)
  have g3 := dgs_len (pmn P t)
  have g4 := dgs_len (prn P t)
  have g5 := dgs_len (pV P t)
  have b2 := (W.dn ht).2
  have b3 := (W.mn ht).2
  have b4 := (W.rn ht).2
  have q0 : qsm [23, 24] σ1 (qu σ1 23 0 1 0) := (qsm_qu σ1 23 0 1 0).mono (by simp)
  have C0 : CT (qu σ1 23 0 1 0) [] := ⟨by rw [qu_at, if_pos ⟨rfl, rfl, rfl⟩]; rfl, fun i v h => by simp at h⟩
  obtain ⟨s1, e1, C1, r1⟩ := c_wn C0 (k := t) (by simp only [List.length_nil]; omega) (by omega)
  obtain ⟨s2, e2, C2, r2⟩ := c_wr C1 (k := 58) (by simp only [List.length_append, List.length_cons, List.length_nil]; omega) (by decide)
  obtain ⟨s3, e3, C3, r3⟩ := c_wn C2 (k := pdn P t) (by simp only [List.length_append, List.length_cons, List.length_nil]; omega) (by omega)
  obtain ⟨s4, e4, C4, r4⟩ := c_wr C3 (k := 120) (by simp only [List.length_append, List.length_cons, List.length_nil]; omega) (by decide)
  obtain ⟨s5, e5, C5, r5⟩ := c_wn C4 (k := pmn P t) (by simp only [List.length_append, List.length_cons, List.length_nil]; omega) (by omega)
  obtain ⟨s6, e6, C6, r6⟩ := c_wr C5 (k := 114) (by simp only [List.length_append, List.length_cons, List.length_nil]; omega) (by decide)
  obtain ⟨s7, e7, C7, r7⟩ := c_wn C6 (k := prn P t) (by simp only [List.length_append, List.length_cons, List.length_nil]; omega) (by omega)
  obtain ⟨s8, e8, C8, r8⟩ := c_wr C7 (k := 64) (by simp only [List.length_append, List.length_cons, List.length_nil]; omega) (by decide)
  obtain ⟨s9, e9, C9, r9⟩ := c_wn C8 (k := pV P t) (by simp only [List.length_append, List.length_cons, List.length_nil]; omega) (by omega)
  have q2 := (q0.trans r1).trans r2
  have q4 := (q2.trans r3).trans r4
  have q6 := (q4.trans r5).trans r6
  have q8 := (q6.trans r7).trans r8
  have q9 := q8.trans r9
  have C9' : CT s9 (tt1 P t) := C9
  have l1 := tt1_len P t
  have f1 : f_X7_at 2 0 (nI t) s2 = qan (nI (pdn P t)) s2 := by rw [c_dur (H.same q2 (by simp)) W ht, (W.dn ht).1]
  have f2 : f_X7_at 4 0 (nI t) s4 = qan (nI (pmn P t)) s4 := by rw [c_dem (H.same q4 (by simp)) W ht, (W.mn ht).1]
  have f3 : f_X7_at 3 0 (nI t) s6 = qan (nI (prn P t)) s6 := by rw [c_res (H.same q6 (by simp)) W ht, (W.rn ht).1]
  have f4 : f_X7_at 17 0 (nI t) s8 = qan (nI (pV P t)) s8 := by rw [e_at (show t < 12 by omega) (by decide), (p1.same q8 (by simp)).2.2.2.2.2.1.1 t ht (pst_full W ht)]; rfl
  unfold f_X3_clear
  rw [qlet_eq, qb_V, e1, qb_V]
  erw [e2]
  rw [qb_V, f1, qb_I, e3, qb_V]
  erw [e4]
  rw [qb_V, f2, qb_I, e5, qb_V]
  erw [e6]
  rw [qb_V, f3, qb_I, e7, qb_V]
  erw [e8]
  rw [qb_V, f4, qb_I, e9, qb_V, e_slack (p1.same q9 (by simp)) W ht, qb_I]
  have H9 := H.same q9 (by simp)
  unfold tt2
  by_cases hc : pL P t = pE P t
  · rw [if_pos (i_sub0.mpr hc), if_pos hc]
    obtain ⟨s10, e10, C10, r10⟩ := c_wr C9' (k := 33) (by omega) (by decide)
    obtain ⟨s11, e11, C11, r11⟩ := cz_nt_loop W ht (pn P) 0 qFU _ s10 (by omega) (by unfold qFU; omega) (H9.same r10 (by simp)) C10 (by simp only [List.length_append, List.length_cons, List.length_nil]; omega)
    refine ⟨s11, ?_, C11, (q9.trans r10).trans r11⟩
    erw [e10]
    exact e11
  · rw [if_neg (fun h => hc (i_sub0.mp h)), if_neg hc]
    obtain ⟨s11, e11, C11, r11⟩ := cz_nt_loop W ht (pn P) 0 qFU _ s9 (by omega) (by unfold qFU; omega) H9 C9' (by omega)
    exact ⟨s11, e11, C11, q9.trans r11⟩
theorem cz_ru_loop (W : PW P) {r : Nat} (hr : r < 3) (hE : pend P (pn P) ≤ 138) : ∀ (e i m : Nat) (σ : qS), i + e = pend P (pn P) → e < m → PlanOK P σ → CT σ (utx P r i) → ∃ σ', l_X7_renderUsageZ_18 m (nI r) (nI i) σ = qan (nI (utx P r (pend P (pn P))).length) σ' ∧ CT σ' (utx P r (pend P (pn P))) ∧ qsm [23, 24] σ σ' := by
  intro e
  induction e with
  | zero =>
    intro i m σ hi hm p1 C
    obtain ⟨m, rfl⟩ : ∃ m', m = m' + 1 := ⟨m - 1, by omega⟩
    have hi : i = pend P (pn P) := by omega
    refine ⟨σ, ?_, hi ▸ C, qsm.refl _ σ⟩
    simp only [l_X7_renderUsageZ_18, b_X7_renderUsageZ_18]
    rw [if_pos (by rw [p1.2.2.2.2.2.2.2, hi]; exact Int32.le_refl _), C.1, hi]
  | succ e ih =>
    intro i m σ hi hm p1 C
    obtain ⟨m, rfl⟩ : ∃ m', m = m' + 1 := ⟨m - 1, by omega⟩
    have hl := utx_len W r i
    have hu := pUf_le W (r := r) (d := i)
    have g := dgs_len2 (k := pUf P r i) (by omega)
    have hx : utx P r (i + 1) = if i = 0 then utx P r i ++ dgs (pUf P r i) else utx P r i ++ [nI 44] ++ dgs (pUf P r i) := rfl
    rw [l_X7_renderUsageZ_18]
    unfold b_X7_renderUsageZ_18
    rw [if_neg (by rw [p1.2.2.2.2.2.2.2]; exact nI_ge (by omega) (by omega)), nI_1]
    by_cases h0 : i = 0
    · rw [if_pos h0] at hx
      obtain ⟨σ2, e2, C2, q2⟩ := c_wn C (k := pUf P r i) (by omega) (by omega)
      obtain ⟨σ3, e3, C3, q3⟩ := ih (i + 1) m σ2 (by omega) (by omega) (p1.same q2 (by simp)) (by rw [hx]; exact C2)
      refine ⟨σ3, ?_, C3, q2.trans q3⟩
      rw [if_pos (by rw [h0]; decide), c_usedOn W p1 hr (by omega), qb_I, e2, qb_V]
      exact e3
    · rw [if_neg h0] at hx
      obtain ⟨σ1, e1, C1, q1⟩ := c_wr C (k := 44) (by omega) (by decide)
      obtain ⟨σ2, e2, C2, q2⟩ := c_wn C1 (k := pUf P r i) (by simp only [List.length_append, List.length_cons, List.length_nil]; omega) (by omega)
      obtain ⟨σ3, e3, C3, q3⟩ := ih (i + 1) m σ2 (by omega) (by omega) ((p1.same q1 (by simp)).same q2 (by simp)) (by rw [hx]; exact C2)
      refine ⟨σ3, ?_, C3, (q1.trans q2).trans q3⟩
      rw [if_neg (by rw [show (0 : Int32) = nI 0 from rfl, n_le (by omega) (by omega)]; omega)]
      show qbind (f_X3_write (nI 44) σ) _ _ = _
      rw [e1, qb_V, c_usedOn W (p1.same q1 (by simp)) hr (by omega), qb_I, e2, qb_V]
      exact e3
end QZ
