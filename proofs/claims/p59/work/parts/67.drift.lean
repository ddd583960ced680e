/-! the baseline: starts, drifts -/
section QB
variable {P : qP} {hs : List qP} {sv : qP} {σ : qS}
def phs (P : qP) (t : Nat) : Bool := !decide (pf P 5 t = -1)
theorem c_hasStart {j : Nat} (W : PW P) (H : Rep σ j P) {t : Nat} (ht : t < pn P) : f_X5_hasStart j (nI t) σ = qan (qb1 (phs P t)) σ := by
  unfold f_X5_hasStart phs
  rw [H.2.2.2]
  by_cases h0 : ph P = 0
  · rw [if_pos h0, W.2.2.2.2.2 h0 t ht]
    rfl
  · rw [if_neg h0, c_base H W ht, qb_I]
    by_cases h1 : pf P 5 t = -1
    · rw [if_pos h1, decide_eq_true h1]; rfl
    · rw [if_neg h1, decide_eq_false h1]; rfl
theorem c_reqB (W : PW P) (H : Rep σ 0 P) {t : Nat} (ht : t < pn P) : f_X7_requireBaselineStart (nI t) σ = if phs P t = true then qdo σ else qth qNSE σ := by
  unfold f_X7_requireBaselineStart
  rw [c_hasStart W H ht, qb_I]
  cases phs P t <;> rfl
def pdr (P : qP) (t : Nat) : Int32 := nI (pV P t) - pf P 5 t
theorem c_drift (I : InvB σ P hs) (S : PlanSt P σ) {t : Nat} (ht : t < pn P) : ∃ σ', f_X7_driftOf (nI t) σ = qan (pdr P t) σ' ∧ Qt σ σ' ∧ InvB σ' P hs ∧ PlanSt P σ' := by
  have W := I.1
  have hn := W.1
  obtain ⟨σ1, c1, q1, I1, s8, p1⟩ := c_plan I S
  refine ⟨σ1, ?_, q1, I1, Or.inr ⟨s8, p1⟩⟩
  unfold f_X7_driftOf
  rw [c1, qb_P, e_at (show t < 12 by omega) (by decide), qb_I, p1.2.2.2.2.2.1.1 t ht (pst_full W ht), c_base I1.2.1 W ht, qb_I]
  rfl
/-! all drifts -/
theorem c_td_loop : ∀ (d i m : Nat) (a : Int32) (σ : qS), i + d = pn P → d < m → InvB σ P hs → PlanSt P σ → ∃ σ', l_X7_totalDrift_24 m a (nI i) σ = qan (fo (fun t a => if phs P t = true then a + qabs (pdr P t) else a) d i a) σ' ∧ Qt σ σ' ∧ InvB σ' P hs ∧ PlanSt P σ' := by
  intro d
  induction d with
  | zero =>
    intro i m a σ hi hm I S
    obtain ⟨m, rfl⟩ : ∃ m', m = m' + 1 := ⟨m - 1, by omega⟩
    have hn := I.1.1
    refine ⟨σ, ?_, Qt.refl σ, I, S⟩
    simp only [l_X7_totalDrift_24, b_X7_totalDrift_24]
    rw [if_pos (by rw [I.2.1.1]; exact nI_le (by omega) (by omega))]
    rfl
  | succ d ih =>
    intro i m a σ hi hm I S
    obtain ⟨m, rfl⟩ : ∃ m', m = m' + 1 := ⟨m - 1, by omega⟩
    have W := I.1
    have hn := W.1
    have hf : fo (fun t a => if phs P t = true then a + qabs (pdr P t) else a) (d + 1) i a = fo (fun t a => if phs P t = true then a + qabs (pdr P t) else a) d (i + 1) (if phs P i = true then a + qabs (pdr P i) else a) := rfl
    simp only [l_X7_totalDrift_24, b_X7_totalDrift_24]
    rw [if_neg (by rw [I.2.1.1]; exact nI_ge (by omega) (by omega)), c_hasStart W I.2.1 (by omega), qb_I, nI_1, hf]
    cases hb : phs P i
    · rw [if_pos (by rfl), if_neg (by decide)]
      exact ih (i + 1) m a σ (by omega) (by omega) I S
    · obtain ⟨σ1, c1, Q1, I1, S1⟩ := c_drift I S (show i < pn P by omega)
      rw [if_neg (by decide), if_pos rfl, c1, qb_I]
      exact qt_tr Q1 (ih (i + 1) m _ σ1 (by omega) (by omega) I1 S1)
end QB

