/-! questions of the plan -/
section QP2
variable {P : qP} {hs : List qP} {sv : qP} {σ : qS}
theorem qb_P {s : qS} {k : qS → Option qO} {ke : String → qS → Option qO} : qbind (some (.inl (some (qR 11 0)), s)) (qvS 11 k) ke = k s := by
  simp [qbind, qvS]
theorem c_two {F : qS → Option qO} {a b : Int32} (H : Rep σ 0 P) : qbind (f_X7_requireTask a σ) (qvV (fun s1 => qbind (f_X7_requireTask b s1) (qvV F) qE1)) qE1 = if (isT P a && isT P b) = true then F σ else qth qIOE σ := by
  rw [c_reqT H]
  cases isT P a
  · rfl
  · rw [if_pos rfl, qb_V, c_reqT H]
    cases isT P b <;> rfl
theorem e_bc (x : Int32) (s s' : qS) : ∃ r, f_J6_bitCount_0f7a4 x s = qan r s ∧ f_J6_bitCount_0f7a4 x s' = qan r s' := ⟨_, rfl, rfl⟩
theorem e_slack {σ1 : qS} (p1 : PlanOK P σ1) (W : PW P) {t : Nat} (ht : t < pn P) : f_X4_slackOf (nI t) σ1 = qan (pL P t - pE P t) σ1 := by
  have hn := W.1
  unfold f_X4_slackOf
  rw [e_at (show t < 12 by omega) (by decide), qb_I, e_at (show t < 12 by omega) (by decide), qb_I, p1.2.2.1 t ht, p1.2.2.2.2.1 t ht]
theorem i_sub0 {a b : Int32} : a - b = 0 ↔ a = b := by
  constructor
  · intro h
    have := congrArg (fun z => z + b) h
    simpa using this
  · rintro rfl
    exact Int32.sub_self a
end QP2

