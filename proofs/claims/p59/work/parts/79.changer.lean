/-! the reference's changes -/
section CR
variable {P : qP} {σ : qS}
/-! adding -/
def fineA (a b c d : Int32) : Bool := decide ((1 : Int32) ≤ a ∧ a ≤ 9) && isR b && decide ((1 : Int32) ≤ c ∧ c ≤ 5) && decide ((0 : Int32) ≤ d ∧ d ≤ 30)
theorem c_faultA {j : Nat} (W : PW P) (H : Rep σ j P) (a b c d : Int32) : f_X5_faultOfAdding j a b c d σ = qan (if fineA a b c d = false then 97 else if pn P = 12 then 115 else 46) σ := by
  have hn := W.1
  have h0 : j_X5_faultOfAdding_43 j σ = qan 97 σ := rfl
  have h12 : (if (12 : Int32) ≤ (σ 1 j 7) then (some (.inl (some (qI (115 : Int32))), σ) : Option qO) else (some (.inl (some (qI (46 : Int32))), σ))) = qan (if pn P = 12 then 115 else 46) σ := by
    rw [H.1]
    by_cases h : pn P = 12
    · rw [if_pos (by rw [show (12 : Int32) = nI 12 from rfl, n_le (by omega) (by omega)]; omega), if_pos h]
    · rw [if_neg (by rw [show (12 : Int32) = nI 12 from rfl, n_le (by omega) (by omega)]; omega), if_neg h]
  unfold f_X5_faultOfAdding fineA isR
  rw [e_isWithin, qb_I]
  cases h1 : decide ((1 : Int32) ≤ a ∧ a ≤ 9)
  · rw [if_pos (by rfl), h0]; rfl
  · rw [if_neg (by decide), e_isWithin, qb_I]
    cases h2 : decide ((0 : Int32) ≤ b ∧ b ≤ 2)
    · rw [if_pos (by rfl), h0]; rfl
    · rw [if_neg (by decide), e_isWithin, qb_I]
      cases h3 : decide ((1 : Int32) ≤ c ∧ c ≤ 5)
      · rw [if_pos (by rfl), h0]; rfl
      · rw [if_neg (by decide), e_isWithin, qb_I]
        cases h4 : decide ((0 : Int32) ≤ d ∧ d ≤ 30)
        · rw [if_pos (by rfl), h0]; rfl
        · rw [if_neg (by decide), if_neg (by decide), h12]; rfl
/-! removing -/
end CR

