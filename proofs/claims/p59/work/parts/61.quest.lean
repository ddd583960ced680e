/-! questions of a task, a resource -/
section QU
variable {P : qP} {hs : List qP} {sv : qP} {σ : qS}
theorem thr_at (σ : qS) (v : Int32) : qu σ 26 0 17 v 26 0 17 = v := by rw [qu_at, if_pos ⟨rfl, rfl, rfl⟩]
def isR (x : Int32) : Bool := decide ((0 : Int32) ≤ x ∧ x ≤ 2)
theorem isR_iff {x : Int32} : isR x = true ↔ ∃ r, r < 3 ∧ x = nI r := by
  have := e_task (n := 3) (by decide) x
  rw [show nI 3 - 1 = (2 : Int32) from by decide] at this
  exact this
theorem c_reqR (x : Int32) (σ : qS) : f_X7_requireResource x σ = if isR x = true then qdo σ else qth qIAE σ := by
  unfold f_X7_requireResource isR
  rw [e_isWithin, qb_I]
  cases decide ((0 : Int32) ≤ x ∧ x ≤ 2) <;> rfl
/-! two tasks -/
end QU

