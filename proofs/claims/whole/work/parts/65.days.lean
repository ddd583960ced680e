/-! the days: the use of a resource on a day, in both ways -/
section QD
variable {P : qP} {hs : List qP} {sv : qP} {σ : qS}
def pUf (P : qP) (r d : Nat) : Nat := pU P (pst P (pn P)).1 (pst P (pn P)).2 r d
theorem pV_le (W : PW P) {t : Nat} (ht : t < pn P) : pV P t + pdn P t ≤ 138 := by
  have := ((pst_spec W (pn P) (Nat.le_refl _)).2 t (pst_full W ht)).2.1
  have hn := W.1
  unfold pV
  omega
theorem pUf_none (W : PW P) {r d : Nat} (hd : 138 ≤ d) : pUf P r d = 0 := by
  refine pU_none (B := 138) (fun u hu => ?_) hd
  have := ((pst_spec W (pn P) (Nat.le_refl _)).2 u hu).2.1
  have hn := W.1
  omega
theorem pUf_le (W : PW P) {r d : Nat} : pUf P r d ≤ 60 := pU_le W
/-- whether a task is worked on on a day -/
def pwd (P : qP) (t d : Nat) : Bool := decide (pV P t ≤ d ∧ d < pV P t + pdn P t)
theorem pUf_eq (W : PW P) (r d : Nat) : pUf P r d = gsum (fun t => if prn P t = r ∧ pwd P t d = true then pmn P t else 0) (pn P) := by
  unfold pUf pU
  refine gsum_congr _ (fun t ht => ?_)
  have := pst_full W ht
  unfold pwd pV
  simp [this]
theorem c_usedOn (W : PW P) (p1 : PlanOK P σ) {r d : Nat} (hr : r < 3) (hd : d < 2 ^ 31) : f_X4_usedOn (nI r) (nI d) σ = qan (nI (pUf P r d)) σ := by
  unfold f_X4_usedOn
  by_cases h : 138 ≤ d
  · rw [if_pos (by rw [show (138 : Int32) = nI 138 from rfl]; exact nI_le h hd), pUf_none W h]
    rfl
  · rw [if_neg (by rw [show (138 : Int32) = nI 138 from rfl]; exact nI_ge (by omega) (by omega)), show (138 : Int32) = nI 138 from rfl, n_mul, nI_add, e_at (show r * 138 + d < qlen 18 by show r * 138 + d < 414; omega) (by decide), qb_I, Nat.mul_comm r 138, p1.2.2.2.2.2.1.2 r d hr (by omega)]
    rfl
def isD (x : Int32) : Bool := decide ((0 : Int32) ≤ x)
theorem isD_iff {x : Int32} : isD x = true ↔ ∃ d, d < 2 ^ 31 ∧ x = nI d := by
  unfold isD
  rw [decide_eq_true_iff]
  constructor
  · intro h
    rw [i_le] at h
    have h2 := Int32.toInt_lt x
    rw [show (0 : Int32).toInt = 0 from rfl] at h
    exact ⟨x.toInt.toNat, by omega, i_nI (by omega) (by omega)⟩
  · rintro ⟨d, hd, rfl⟩
    exact nI_pos' hd
theorem c_reqD (x : Int32) (σ : qS) : f_X7_requireDay x σ = if isD x = true then qdo σ else qth qIAE σ := by
  unfold f_X7_requireDay isD
  by_cases h : (0 : Int32) ≤ x
  · rw [if_pos h, if_pos (decide_eq_true h)]
  · rw [if_neg h, if_neg (by rw [decide_eq_false h]; decide)]
theorem c_rd {F : qS → Option qO} (a b : Int32) (σ : qS) : qbind (f_X7_requireResource a σ) (qvV (fun s1 => qbind (f_X7_requireDay b s1) (qvV F) qE1)) qE1 = if (isR a && isD b) = true then F σ else qth qIAE σ := by
  rw [c_reqR]
  cases isR a
  · rfl
  · rw [if_pos rfl, qb_V, c_reqD]
    cases isD b <;> rfl
/-- the reference's use -/
theorem r_usageOn (W : PW P) (H : RepR σ 27 0 P) (a b : Int32) : ∃ σ', qsm [31, 32, 33, 34] σ σ' ∧ (((isR a && isD b) = false ∧ f_X8_usageOn a b σ = qan 0 (qu σ' 26 0 17 1)) ∨ ∃ r d, r < 3 ∧ d < 2 ^ 31 ∧ a = nI r ∧ b = nI d ∧ f_X8_usageOn a b σ = qan (nI (pUf P r d)) (qu σ' 26 0 17 0)) := by
  obtain ⟨σ2, e2, q2, a2, b2, l2⟩ := r_levels W H
  refine ⟨σ2, q2, ?_⟩
  have no : j_X8_usageOn_21 a b 0 σ2 = qan 0 (qu σ2 26 0 17 1) := by
    unfold j_X8_usageOn_21
    rw [show (0 : Int32) = qb1 false from rfl, r_goes, qb_I, if_pos (by decide)]
    rfl
  unfold f_X8_usageOn
  rw [e2, qb_V, r_isR, qb_I]
  cases hx : isR a
  · exact Or.inl ⟨rfl, by rw [if_pos (by rfl)]; exact no⟩
  · rw [if_neg (by decide)]
    cases hy : isD b
    · refine Or.inl ⟨rfl, ?_⟩
      unfold isD at hy
      rw [decide_eq_false_iff_not] at hy
      rw [if_pos (Int32.not_le.mp hy)]
      exact no
    · obtain ⟨r, hr, rfl⟩ := isR_iff.mp hx
      obtain ⟨d, hd, rfl⟩ := isD_iff.mp hy
      refine Or.inr ⟨r, d, hr, hd, rfl, rfl, ?_⟩
      rw [if_neg (n_ge0 hd)]
      unfold j_X8_usageOn_21
      rw [show (1 : Int32) = qb1 true from rfl, r_goes, qb_I, if_neg (by decide)]
      by_cases h : 160 ≤ d
      · rw [if_pos (by rw [show (160 : Int32) = nI 160 from rfl]; exact nI_le h hd), pUf_none W (by omega)]
        rfl
      · rw [if_neg (by rw [show (160 : Int32) = nI 160 from rfl]; exact nI_ge (by omega) (by omega)), show (160 : Int32) = nI 160 from rfl, n_mul, nI_add, if_pos (n_in (by omega) (by decide)), nI_clamp (by omega), qu_at, if_neg (show ¬ (34 = 26 ∧ 0 = 0 ∧ 160 * r + d = 17) by omega), l2.2 r d hr (by omega)]
        rfl
theorem k_usage (a b : Int32) (h : Inv σ) : CaseL (f_L_usage a b) (f_X8_usage a b) σ := by
  obtain ⟨P, hs, sv, I, S⟩ := h
  have W := I.1
  obtain ⟨σ1, c1, q1, I1, s8, p1⟩ := c_plan I S
  obtain ⟨σ2, q2, ⟨hf, e⟩ | ⟨r, d, hr, hd, rfl, rfl, -⟩⟩ := r_usageOn W I.2.2.1 a b
  · exact casek (k := 1) (b := 0) (by decide) (by decide) (by unfold f_L_usage f_X7_usage; rw [c_rd, hf, if_neg (by decide)]; rfl) I S (by unfold f_X8_usage; rw [e, qb_I]; rfl) (thr_at _ _) ((Qr.of q2 (by simp)).trans (Qr.thr _ _))
  · obtain ⟨σ3, q3, ⟨hf, e⟩ | ⟨r', d', hr', hd', e1, e2, e⟩⟩ := r_usageOn W (I1.out (nI (pUf P r d))).2.2.1 (nI r) (nI d)
    · rw [isR_iff.mpr ⟨r, hr, rfl⟩, isD_iff.mpr ⟨d, hd, rfl⟩] at hf; cases hf
    · rw [n_eq (by omega) (by omega)] at e1 e2
      subst e1; subst e2
      refine case0 (r := nI (pUf P r d)) ?_ I1 (Or.inr ⟨s8, p1⟩) (by unfold f_X8_usage; rw [e, qb_I]) (thr_at _ _) ((Qr.of q3 (by simp)).trans (Qr.thr _ _))
      unfold f_L_usage f_X7_usage
      rw [c_rd, isR_iff.mpr ⟨r, hr, rfl⟩, isD_iff.mpr ⟨d, hd, rfl⟩, if_pos (by rfl), c1, qb_P, c_usedOn W p1 hr hd, qb_I]
      rfl
/-- work on a day -/
theorem c_worked (I : InvB σ P hs sv) (S : PlanSt P σ) {t d : Nat} (ht : t < pn P) (hd : d < 2 ^ 31) : ∃ σ', f_X7_isWorkedOn (nI t) (nI d) σ = qan (qb1 (pwd P t d)) σ' ∧ InvB σ' P hs sv ∧ PlanSt P σ' := by
  have W := I.1
  have hn := W.1
  obtain ⟨σ1, c1, q1, I1, s8, p1⟩ := c_plan I S
  have hv := pV_le W ht
  refine ⟨σ1, ?_, I1, Or.inr ⟨s8, p1⟩⟩
  unfold f_X7_isWorkedOn
  rw [c1, qb_P, e_at (show t < 12 by omega) (by decide), qb_I, p1.2.2.2.2.2.1.1 t ht (pst_full W ht), c_dur I1.2.1 W ht, qb_I, (W.dn ht).1, nI_add]
  unfold pwd pV at *
  by_cases h1 : d < (pst P (pn P)).2 t
  · rw [if_pos ((n_lt hd (by omega)).mpr h1), decide_eq_false (by omega)]; rfl
  · rw [if_neg (fun h => h1 ((n_lt hd (by omega)).mp h))]
    by_cases h2 : (pst P (pn P)).2 t + pdn P t ≤ d
    · rw [if_pos ((n_le (by omega) hd).mpr h2), decide_eq_false (by omega)]; rfl
    · rw [if_neg (fun h => h2 ((n_le (by omega) hd).mp h)), decide_eq_true (by omega)]; rfl
theorem gsum_last (f : Nat → Nat) (k : Nat) : gsum f (k + 1) = gsum f k + f k := rfl
theorem c_byTasks_loop {r d : Nat} (hr : r < 3) (hd : d < 2 ^ 31) : ∀ (e i m : Nat) (σ : qS), i + e = pn P → e < m → InvB σ P hs sv → PlanSt P σ → ∃ σ', l_X7_usageByTasks_13 m (nI r) (nI d) (nI (gsum (fun t => if prn P t = r ∧ pwd P t d = true then pmn P t else 0) i)) (nI i) σ = qan (nI (gsum (fun t => if prn P t = r ∧ pwd P t d = true then pmn P t else 0) (pn P))) σ' ∧ InvB σ' P hs sv ∧ PlanSt P σ' := by
  intro e
  induction e with
  | zero =>
    intro i m σ hi hm I S
    obtain ⟨m, rfl⟩ : ∃ m', m = m' + 1 := ⟨m - 1, by omega⟩
    have hn := I.1.1
    have hi : i = pn P := by omega
    subst hi
    refine ⟨σ, ?_, I, S⟩
    simp only [l_X7_usageByTasks_13, b_X7_usageByTasks_13]
    rw [if_pos (by rw [I.2.1.1]; exact Int32.le_refl _)]
  | succ e ih =>
    intro i m σ hi hm I S
    obtain ⟨m, rfl⟩ : ∃ m', m = m' + 1 := ⟨m - 1, by omega⟩
    have W := I.1
    have hn := W.1
    have hg := gsum_last (fun t => if prn P t = r ∧ pwd P t d = true then pmn P t else 0) i
    simp only [l_X7_usageByTasks_13, b_X7_usageByTasks_13]
    rw [if_neg (by rw [I.2.1.1]; exact nI_ge (by omega) (by omega)), c_res I.2.1 W (by omega), qb_I, (W.rn (show i < pn P by omega)).1, nI_1]
    by_cases hp : prn P i = r
    · obtain ⟨σ1, e1, I1, S1⟩ := c_worked I S (show i < pn P by omega) hd
      rw [if_pos (by rw [hp]), e1, qb_I]
      cases hw : pwd P i d
      · rw [if_pos (by rfl)]
        have := ih (i + 1) m σ1 (by omega) (by omega) I1 S1
        rw [hg, if_neg (show ¬ (prn P i = r ∧ pwd P i d = true) by rw [hw]; simp), Nat.add_zero] at this
        exact this
      · rw [if_neg (by decide), c_dem I1.2.1 W (by omega), qb_I, (W.mn (show i < pn P by omega)).1, nI_add]
        have := ih (i + 1) m σ1 (by omega) (by omega) I1 S1
        rw [hg, if_pos (show prn P i = r ∧ pwd P i d = true from ⟨hp, hw⟩)] at this
        exact this
    · rw [if_neg (fun h => hp ((n_eq (by have := (W.rn (show i < pn P by omega)).2; omega) (by omega)).mp h))]
      have := ih (i + 1) m σ (by omega) (by omega) I S
      rw [hg, if_neg (show ¬ (prn P i = r ∧ pwd P i d = true) from fun h => hp h.1), Nat.add_zero] at this
      exact this
theorem k_usageByTasks (a b : Int32) (h : Inv σ) : CaseL (f_L_usageByTasks a b) (f_X8_usageByTasks a b) σ := by
  obtain ⟨P, hs, sv, I, S⟩ := h
  have W := I.1
  obtain ⟨σ2, q2, ⟨hf, e⟩ | ⟨r, d, hr, hd, rfl, rfl, -⟩⟩ := r_usageOn W I.2.2.1 a b
  · exact casek (k := 1) (b := 0) (by decide) (by decide) (by unfold f_L_usageByTasks f_X7_usageByTasks; rw [c_rd, hf, if_neg (by decide)]; rfl) I S (by unfold f_X8_usageByTasks; rw [e, qb_I]; rfl) (thr_at _ _) ((Qr.of q2 (by simp)).trans (Qr.thr _ _))
  · have hn := W.1
    obtain ⟨σ1, c1, I1, S1⟩ := c_byTasks_loop (P := P) hr hd (pn P) 0 qFU σ (by omega) (by unfold qFU; omega) I S
    rw [← pUf_eq W, show nI (gsum (fun t => if prn P t = r ∧ pwd P t d = true then pmn P t else 0) 0) = (0 : Int32) from rfl] at c1
    obtain ⟨σ3, q3, ⟨hf, e⟩ | ⟨r', d', hr', hd', e1, e2, e⟩⟩ := r_usageOn W (I1.out (nI (pUf P r d))).2.2.1 (nI r) (nI d)
    · rw [isR_iff.mpr ⟨r, hr, rfl⟩, isD_iff.mpr ⟨d, hd, rfl⟩] at hf; cases hf
    · rw [n_eq (by omega) (by omega)] at e1 e2
      subst e1; subst e2
      refine case0 (r := nI (pUf P r d)) ?_ I1 S1 (by unfold f_X8_usageByTasks; rw [e, qb_I]) (thr_at _ _) ((Qr.of q3 (by simp)).trans (Qr.thr _ _))
      unfold f_L_usageByTasks f_X7_usageByTasks
      rw [c_rd, isR_iff.mpr ⟨r, hr, rfl⟩, isD_iff.mpr ⟨d, hd, rfl⟩, if_pos (by rfl), show (0 : Int32) = nI 0 from rfl, show nI 0 = (0 : Int32) from rfl]
      erw [c1]
      rfl
/-! tasks on a day -/
theorem c_tasksOn_loop {d : Nat} (hd : d < 2 ^ 31) : ∀ (e i m : Nat) (a : Int32) (σ : qS), i + e = pn P → e < m → InvB σ P hs sv → PlanSt P σ → ∃ σ', l_X7_tasksOn_8 m (nI d) a (nI i) σ = qan (fo (fun t a => if pwd P t d = true then a + 1 else a) e i a) σ' ∧ InvB σ' P hs sv ∧ PlanSt P σ' := by
  intro e
  induction e with
  | zero =>
    intro i m a σ hi hm I S
    obtain ⟨m, rfl⟩ : ∃ m', m = m' + 1 := ⟨m - 1, by omega⟩
    have hn := I.1.1
    refine ⟨σ, ?_, I, S⟩
    simp only [l_X7_tasksOn_8, b_X7_tasksOn_8]
    rw [if_pos (by rw [I.2.1.1]; exact nI_le (by omega) (by omega))]
    rfl
  | succ e ih =>
    intro i m a σ hi hm I S
    obtain ⟨m, rfl⟩ : ∃ m', m = m' + 1 := ⟨m - 1, by omega⟩
    have W := I.1
    have hn := W.1
    obtain ⟨σ1, e1, I1, S1⟩ := c_worked I S (show i < pn P by omega) hd
    simp only [l_X7_tasksOn_8, b_X7_tasksOn_8, fo]
    rw [if_neg (by rw [I.2.1.1]; exact nI_ge (by omega) (by omega)), e1, qb_I, nI_1]
    cases hw : pwd P i d
    · rw [if_pos (by rfl), if_neg (by decide)]
      exact ih (i + 1) m a σ1 (by omega) (by omega) I1 S1
    · rw [if_neg (by decide), if_pos rfl]
      exact ih (i + 1) m _ σ1 (by omega) (by omega) I1 S1
theorem r_tasksOn_loop (W : PW P) (H : RepR σ 27 0 P) (h33 : ∀ t, t < pn P → σ 33 0 t = nI (pV P t)) {d : Nat} (hd : d < 2 ^ 31) : ∀ (e i m : Nat) (a : Int32), i + e = pn P → e < m → l_X8_tasksOn_26 m (nI d) a (nI i) σ = qan (fo (fun t a => if pwd P t d = true then a + 1 else a) e i a) σ := by
  have hn := W.1
  intro e
  induction e with
  | zero =>
    intro i m a hi hm
    obtain ⟨m, rfl⟩ : ∃ m', m = m' + 1 := ⟨m - 1, by omega⟩
    simp only [l_X8_tasksOn_26, b_X8_tasksOn_26, fo]
    rw [if_pos (by rw [H.1]; exact nI_le (by omega) (by omega))]
  | succ e ih =>
    intro i m a hi hm
    obtain ⟨m, rfl⟩ : ∃ m', m = m' + 1 := ⟨m - 1, by omega⟩
    have hq : qin (nI i) 12 := n_in (by omega) (by decide)
    have hv := pV_le W (show i < pn P by omega)
    have hdn := (W.dn (show i < pn P by omega)).2.1
    obtain ⟨z, hz⟩ : ∃ z, pV P i + pdn P i = z + 1 := ⟨pV P i + pdn P i - 1, by omega⟩
    have hin : decide (nI (pV P i) ≤ nI d ∧ nI d ≤ nI z) = pwd P i d := by
      unfold pwd
      refine decide_eq_decide.mpr ?_
      rw [n_le (by omega) hd, n_le hd (by omega)]
      omega
    simp only [l_X8_tasksOn_26, b_X8_tasksOn_26, fo]
    rw [if_neg (by rw [H.1]; exact nI_ge (by omega) (by omega)), if_pos hq, if_pos hq, r_dur H W (by omega), qb_I, nI_clamp (by omega), h33 i (by omega), (W.dn (show i < pn P by omega)).1, nI_add, hz, nI_pred, r_isIn, qb_I, hin, nI_1]
    cases hw : pwd P i d
    · rw [if_pos (by rfl), if_neg (by decide), Int32.add_zero]
      exact ih (i + 1) m a (by omega) (by omega)
    · rw [if_neg (by decide), if_pos rfl]
      exact ih (i + 1) m _ (by omega) (by omega)
theorem k_tasksOn (b : Int32) (h : Inv σ) : CaseL (f_L_tasksOn b) (f_X8_tasksOn b) σ := by
  obtain ⟨P, hs, sv, I, S⟩ := h
  have W := I.1
  have hn := W.1
  cases hy : isD b
  · have hy2 := hy
    unfold isD at hy2
    rw [decide_eq_false_iff_not] at hy2
    exact casek (k := 1) (b := 0) (by decide) (by decide) (by unfold f_L_tasksOn f_X7_tasksOn; rw [c_reqD, hy, if_neg (by decide)]; rfl) I S (by unfold f_X8_tasksOn; rw [if_pos (Int32.not_le.mp hy2), show (0 : Int32) = qb1 false from rfl, r_goes, qb_I, if_pos (by decide)]; rfl) (thr_at _ _) (Qr.thr _ _)
  · obtain ⟨d, hd, rfl⟩ := isD_iff.mp hy
    obtain ⟨σ1, c1, I1, S1⟩ := c_tasksOn_loop (P := P) hd (pn P) 0 qFU 0 σ (by omega) (by unfold qFU; omega) I S
    obtain ⟨F, hF⟩ : ∃ F, F = fo (fun t a => if pwd P t d = true then a + 1 else a) (pn P) 0 0 := ⟨_, rfl⟩
    rw [← hF] at c1
    have R1 : RepR (qu (qu σ1 38 0 0 F) 26 0 17 0) 27 0 P := (I1.out _).2.2.1.qt (Qt.thr _ _) (Or.inl rfl)
    obtain ⟨σ2, e2, q2, a2, b2, l2⟩ := r_levels W R1
    have l3 := r_tasksOn_loop W (R1.same q2 (by simp)) (fun t ht => l2.1 t ht (pst_full W ht)) hd (pn P) 0 qFU 0 (by omega) (by unfold qFU; omega)
    rw [← hF] at l3
    refine case0 (r := F) (σ1 := σ1) (σ2 := σ2) ?_ I1 S1 ?_ (by rw [q2 26 0 (by simp)]; exact thr_at _ _) ((Qr.thr _ _).trans (Qr.of q2 (by simp)))
    · unfold f_L_tasksOn f_X7_tasksOn
      rw [c_reqD, hy, if_pos rfl, qb_V]
      erw [c1]
      rfl
    · unfold f_X8_tasksOn
      rw [if_neg (n_ge0 hd), show (1 : Int32) = qb1 true from rfl, r_goes, qb_I, if_neg (by decide)]
      show qbind (f_X8_levels (qu (qu σ1 38 0 0 F) 26 0 17 0)) _ _ = _
      rw [e2, qb_V]
      exact l3
end QD
