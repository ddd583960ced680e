/-! the changes' cases -/
section WR
variable {P P' : qP} {hs hs' : List qP} {sv : qP} {σ σ1 σ2 : qS}
/-! the reference's frame of a change -/
theorem HC.q0 {nx : Nat} {σ σ' : qS} (h : HC σ hs nx) (q : Q0 0 σ σ') : HC σ' hs nx := by
  have k9 : σ' 9 0 = σ 9 0 := q 9 0 (by omega)
  exact ⟨h.1, by rw [k9]; exact h.2.1, h.2.2.1, by rw [k9]; exact h.2.2.2.1, fun i Q hQ => (h.2.2.2.2 i Q hQ).tr (fun a h1 h2 => q a _ (by omega))⟩
theorem PlanSt.no {σ σ' : qS} (h : σ 0 0 8 = 0) (q : Q0 0 σ σ') : PlanSt P' σ' := Or.inl (by rw [q 0 0 (by omega)]; exact h)
theorem rf_46 (s : qS) : f_X7_refuse 46 s = qdo s := rfl
theorem qb1_or (b : Bool) : qb1 b = 0 ∨ qb1 b = 1 := by cases b <;> simp [qb1]
end WR

