/-! the days: the use of a resource on a day, in both ways -/
section QD
variable {P : qP} {hs : List qP} {sv : qP} {σ : qS}
def pUf (P : qP) (r d : Nat) : Nat := pU P (pst P (pn P)).1 (pst P (pn P)).2 r d
theorem pV_le (W : PW P) {t : Nat} (ht : t < pn P) : pV P t + pdn P t ≤ 138 := by
  have := ((pst_spec W (pn P) (Nat.le_refl _)).2 t (pst_full W ht)).2.1
  have hn := W.1
  unfold pV
  omega
theorem pUf_none (W : PW P) {r d : Nat} (hd : 138 ≤ d) : pUf P r d = 0 := by
  refine pU_none (B := 138) (fun u hu => ?_) hd
  have := ((pst_spec W (pn P) (Nat.le_refl _)).2 u hu).2.1
  have hn := W.1
  omega
theorem pUf_le (W : PW P) {r d : Nat} : pUf P r d ≤ 60 := pU_le W
/-- whether a task is worked on on a day -/
def pwd (P : qP) (t d : Nat) : Bool := decide (pV P t ≤ d ∧ d < pV P t + pdn P t)
theorem pUf_eq (W : PW P) (r d : Nat) : pUf P r d = gsum (fun t => if prn P t = r ∧ pwd P t d = true then pmn P t else 0) (pn P) := by
  unfold pUf pU
  refine gsum_congr _ (fun t ht => ?_)
  have := pst_full W ht
  unfold pwd pV
  simp [this]
theorem c_usedOn (W : PW P) (p1 : PlanOK P σ) {r d : Nat} (hr : r < 3) (hd : d < 2 ^ 31) : f_X4_usedOn (nI r) (nI d) σ = qan (nI (pUf P r d)) σ := by
  unfold f_X4_usedOn
  by_cases h : 138 ≤ d
  · rw [if_pos (by rw [show (138 : Int32) = nI 138 from rfl]; exact nI_le h hd), pUf_none W h]
    rfl
  · rw [if_neg (by rw [show (138 : Int32) = nI 138 from rfl]; exact nI_ge (by omega) (by omega)), show (138 : Int32) = nI 138 from rfl, n_mul, nI_add, e_at (show r * 138 + d < qlen 18 by show r * 138 + d < 414; omega) (by decide), qb_I, Nat.mul_comm r 138, p1.2.2.2.2.2.1.2 r d hr (by omega)]
    rfl
def isD (x : Int32) : Bool := decide ((0 : Int32) ≤ x)
theorem isD_iff {x : Int32} : isD x = true ↔ ∃ d, d < 2 ^ 31 ∧ x = nI d := by
  unfold isD
  rw [decide_eq_true_iff]
  constructor
  · intro h
    rw [i_le] at h
    have h2 := Int32.toInt_lt x
    rw [show (0 : Int32).toInt = 0 from rfl] at h
    exact ⟨x.toInt.toNat, by omega, i_nI (by omega) (by omega)⟩
  · rintro ⟨d, hd, rfl⟩
    exact nI_pos' hd
theorem c_reqD (x : Int32) (σ : qS) : f_X7_requireDay x σ = if isD x = true then qdo σ else qth qIAE σ := by
  unfold f_X7_requireDay isD
  by_cases h : (0 : Int32) ≤ x
  · rw [if_pos h, if_pos (decide_eq_true h)]
  · rw [if_neg h, if_neg (by rw [decide_eq_false h]; decide)]
theorem c_rd {F : qS → Option qO} (a b : Int32) (σ : qS) : qbind (f_X7_requireResource a σ) (qvV (fun s1 => qbind (f_X7_requireDay b s1) (qvV F) qE1)) qE1 = if (isR a && isD b) = true then F σ else qth qIAE σ := by
  rw [c_reqR]
  cases isR a
  · rfl
  · rw [if_pos rfl, qb_V, c_reqD]
    cases isD b <;> rfl
/-- work on a day -/
theorem c_worked (I : InvB σ P hs) (S : PlanSt P σ) {t d : Nat} (ht : t < pn P) (hd : d < 2 ^ 31) : ∃ σ', f_X7_isWorkedOn (nI t) (nI d) σ = qan (qb1 (pwd P t d)) σ' ∧ Qt σ σ' ∧ InvB σ' P hs ∧ PlanSt P σ' := by
  have W := I.1
  have hn := W.1
  obtain ⟨σ1, c1, q1, I1, s8, p1⟩ := c_plan I S
  have hv := pV_le W ht
  refine ⟨σ1, ?_, q1, I1, Or.inr ⟨s8, p1⟩⟩
  unfold f_X7_isWorkedOn
  rw [c1, qb_P, e_at (show t < 12 by omega) (by decide), qb_I, p1.2.2.2.2.2.1.1 t ht (pst_full W ht), c_dur I1.2.1 W ht, qb_I, (W.dn ht).1, nI_add]
  unfold pwd pV at *
  by_cases h1 : d < (pst P (pn P)).2 t
  · rw [if_pos ((n_lt hd (by omega)).mpr h1), decide_eq_false (by omega)]; rfl
  · rw [if_neg (fun h => h1 ((n_lt hd (by omega)).mp h))]
    by_cases h2 : (pst P (pn P)).2 t + pdn P t ≤ d
    · rw [if_pos ((n_le (by omega) hd).mpr h2), decide_eq_false (by omega)]; rfl
    · rw [if_neg (fun h => h2 ((n_le (by omega) hd).mp h)), decide_eq_true (by omega)]; rfl
theorem gsum_last (f : Nat → Nat) (k : Nat) : gsum f (k + 1) = gsum f k + f k := rfl
theorem c_byTasks_loop {r d : Nat} (hr : r < 3) (hd : d < 2 ^ 31) : ∀ (e i m : Nat) (σ : qS), i + e = pn P → e < m → InvB σ P hs → PlanSt P σ → ∃ σ', l_X7_usageByTasks_13 m (nI r) (nI d) (nI (gsum (fun t => if prn P t = r ∧ pwd P t d = true then pmn P t else 0) i)) (nI i) σ = qan (nI (gsum (fun t => if prn P t = r ∧ pwd P t d = true then pmn P t else 0) (pn P))) σ' ∧ Qt σ σ' ∧ InvB σ' P hs ∧ PlanSt P σ' := by
  intro e
  induction e with
  | zero =>
    intro i m σ hi hm I S
    obtain ⟨m, rfl⟩ : ∃ m', m = m' + 1 := ⟨m - 1, by omega⟩
    have hn := I.1.1
    have hi : i = pn P := by omega
    subst hi
    refine ⟨σ, ?_, Qt.refl σ, I, S⟩
    simp only [l_X7_usageByTasks_13, b_X7_usageByTasks_13]
    rw [if_pos (by rw [I.2.1.1]; exact Int32.le_refl _)]
  | succ e ih =>
    intro i m σ hi hm I S
    obtain ⟨m, rfl⟩ : ∃ m', m = m' + 1 := ⟨m - 1, by omega⟩
    have W := I.1
    have hn := W.1
    have hg := gsum_last (fun t => if prn P t = r ∧ pwd P t d = true then pmn P t else 0) i
    simp only [l_X7_usageByTasks_13, b_X7_usageByTasks_13]
    rw [if_neg (by rw [I.2.1.1]; exact nI_ge (by omega) (by omega)), c_res I.2.1 W (by omega), qb_I, (W.rn (show i < pn P by omega)).1, nI_1]
    by_cases hp : prn P i = r
    · obtain ⟨σ1, e1, Q1, I1, S1⟩ := c_worked I S (show i < pn P by omega) hd
      rw [if_pos (by rw [hp]), e1, qb_I]
      cases hw : pwd P i d
      · rw [if_pos (by rfl)]
        have := ih (i + 1) m σ1 (by omega) (by omega) I1 S1
        rw [hg, if_neg (show ¬ (prn P i = r ∧ pwd P i d = true) by rw [hw]; simp), Nat.add_zero] at this
        exact qt_tr Q1 this
      · rw [if_neg (by decide), c_dem I1.2.1 W (by omega), qb_I, (W.mn (show i < pn P by omega)).1, nI_add]
        have := ih (i + 1) m σ1 (by omega) (by omega) I1 S1
        rw [hg, if_pos (show prn P i = r ∧ pwd P i d = true from ⟨hp, hw⟩)] at this
        exact qt_tr Q1 this
    · rw [if_neg (fun h => hp ((n_eq (by have := (W.rn (show i < pn P by omega)).2; omega) (by omega)).mp h))]
      have := ih (i + 1) m σ (by omega) (by omega) I S
      rw [hg, if_neg (show ¬ (prn P i = r ∧ pwd P i d = true) from fun h => hp h.1), Nat.add_zero] at this
      exact this
/-! tasks on a day -/
theorem c_tasksOn_loop {d : Nat} (hd : d < 2 ^ 31) : ∀ (e i m : Nat) (a : Int32) (σ : qS), i + e = pn P → e < m → InvB σ P hs → PlanSt P σ → ∃ σ', l_X7_tasksOn_8 m (nI d) a (nI i) σ = qan (fo (fun t a => if pwd P t d = true then a + 1 else a) e i a) σ' ∧ Qt σ σ' ∧ InvB σ' P hs ∧ PlanSt P σ' := by
  intro e
  induction e with
  | zero =>
    intro i m a σ hi hm I S
    obtain ⟨m, rfl⟩ : ∃ m', m = m' + 1 := ⟨m - 1, by omega⟩
    have hn := I.1.1
    refine ⟨σ, ?_, Qt.refl σ, I, S⟩
    simp only [l_X7_tasksOn_8, b_X7_tasksOn_8]
    rw [if_pos (by rw [I.2.1.1]; exact nI_le (by omega) (by omega))]
    rfl
  | succ e ih =>
    intro i m a σ hi hm I S
    obtain ⟨m, rfl⟩ : ∃ m', m = m' + 1 := ⟨m - 1, by omega⟩
    have W := I.1
    have hn := W.1
    obtain ⟨σ1, e1, Q1, I1, S1⟩ := c_worked I S (show i < pn P by omega) hd
    simp only [l_X7_tasksOn_8, b_X7_tasksOn_8, fo]
    rw [if_neg (by rw [I.2.1.1]; exact nI_ge (by omega) (by omega)), e1, qb_I, nI_1]
    cases hw : pwd P i d
    · rw [if_pos (by rfl), if_neg (by decide)]
      exact qt_tr Q1 (ih (i + 1) m a σ1 (by omega) (by omega) I1 S1)
    · rw [if_neg (by decide), if_pos rfl]
      exact qt_tr Q1 (ih (i + 1) m _ σ1 (by omega) (by omega) I1 S1)
end QD

