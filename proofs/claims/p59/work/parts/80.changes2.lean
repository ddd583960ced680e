/-! links, settings, marks: both sides -/
section CL2
variable {P : qP} {σ : qS}
theorem prea_self (W : PW P) {t : Nat} (ht : t < pn P) : prea P t t = false := by
  cases h : prea P t t
  · rfl
  · obtain ⟨r, hr⟩ := W.2.2.2.1
    have := (gr_low (n := pn P) (h := r) (fun a b ha e => W.ed_lt ha e) hr ht (prea_iff.mp h)).2
    omega
theorem qch46 : qch (46 : Int32) := by decide
theorem qch105 : qch (105 : Int32) := by decide
theorem c_faultP {j : Nat} (H : Rep σ j P) (a b : Int32) : f_X5_faultOfPair j a b σ = qan (if (isT P a && isT P b) = true then 46 else 105) σ := by
  unfold f_X5_faultOfPair
  rw [c_faultT H, qb_I]
  cases isT P a
  · rw [if_neg (show ¬ false = true by decide), if_neg (by decide)]; rfl
  · rw [if_pos rfl, if_pos rfl, c_faultT H, qb_I]
    cases isT P b
    · rw [if_neg (show ¬ false = true by decide), if_pos qch105]; rfl
    · rw [if_pos rfl, if_pos qch46]; rfl
/-- the kinds of a link -/
theorem c_faultL {j : Nat} (W : PW P) (H : Rep σ j P) (a b : Int32) : ((isT P a && isT P b) = false ∧ f_X5_faultOfLinking j a b σ = qan 105 σ) ∨ (∃ t u, t < pn P ∧ u < pn P ∧ a = nI t ∧ b = nI u ∧ f_X5_faultOfLinking j a b σ = qan (if t = u then 97 else if prea P u t = true then 117 else 46) σ) := by
  have hn := W.1
  unfold f_X5_faultOfLinking
  rw [c_faultP H, qb_I]
  cases hx : isT P a
  · exact Or.inl ⟨rfl, by rw [show (false && isT P b) = false from rfl, if_neg (show ¬ false = true by decide), if_neg (by decide)]⟩
  · cases hy : isT P b
    · exact Or.inl ⟨rfl, by rw [show (true && false) = false from rfl, if_neg (show ¬ false = true by decide), if_neg (by decide)]⟩
    · obtain ⟨t, ht, rfl⟩ := (isT_iff W).mp hx
      obtain ⟨u, hu, rfl⟩ := (isT_iff W).mp hy
      refine Or.inr ⟨t, u, ht, hu, rfl, rfl, ?_⟩
      rw [show (true && true) = true from rfl, if_pos rfl, if_pos rfl]
      by_cases e : t = u
      · rw [if_pos (by rw [e]), if_pos e]
      · rw [if_neg (fun h => e ((n_eq (by omega) (by omega)).mp h)), if_neg e, c_reaches H W hu (by omega), qb_I]
        cases prea P u t <;> rfl
theorem c_link {j : Nat} (W : PW P) (H : Rep σ j P) {t u : Nat} (ht : t < pn P) : f_X5_link j (nI t) (nI u) σ = qdo (qu σ 6 j t (pf P 4 t ||| ((1 : Int32) <<< (nI u &&& 31)))) := by
  have hn := W.1
  unfold f_X5_link
  rw [c_need H W ht, qb_I, e_put (show t < qlen 6 by show t < 12; omega) (by decide), qb_V]
theorem c_unlink {j : Nat} (W : PW P) (H : Rep σ j P) {t u : Nat} (ht : t < pn P) : f_X5_unlink j (nI t) (nI u) σ = qdo (qu σ 6 j t (pf P 4 t &&& (((1 : Int32) <<< (nI u &&& 31)) ^^^ (-1 : Int32)))) := by
  have hn := W.1
  unfold f_X5_unlink
  rw [c_need H W ht, qb_I, e_put (show t < qlen 6 by show t < 12; omega) (by decide), qb_V]
/-! settings -/
theorem c_faultD {j : Nat} (H : Rep σ j P) (a v : Int32) : f_X5_faultOfDuration j a v σ = qan (if isT P a = false then 105 else if ((1 : Int32) ≤ v ∧ v ≤ 9) then 46 else 97) σ := by
  unfold f_X5_faultOfDuration
  rw [c_faultT H, qb_I]
  cases isT P a
  · rw [if_neg (show ¬ false = true by decide), if_neg (by decide), if_pos rfl]
  · rw [if_pos rfl, if_pos rfl, e_isWithin, qb_I, if_neg (show ¬ true = false by decide)]
    by_cases h : (1 : Int32) ≤ v ∧ v ≤ 9
    · rw [decide_eq_true h, if_neg (by decide), if_pos h]
    · rw [decide_eq_false h, if_pos (by rfl), if_neg h]
theorem c_faultR {j : Nat} (H : Rep σ j P) (a v : Int32) : f_X5_faultOfRelease j a v σ = qan (if isT P a = false then 105 else if ((0 : Int32) ≤ v ∧ v ≤ 30) then 46 else 97) σ := by
  unfold f_X5_faultOfRelease
  rw [c_faultT H, qb_I]
  cases isT P a
  · rw [if_neg (show ¬ false = true by decide), if_neg (by decide), if_pos rfl]
  · rw [if_pos rfl, if_pos rfl, e_isWithin, qb_I, if_neg (show ¬ true = false by decide)]
    by_cases h : (0 : Int32) ≤ v ∧ v ≤ 30
    · rw [decide_eq_true h, if_neg (by decide), if_pos h]
    · rw [decide_eq_false h, if_pos (by rfl), if_neg h]
theorem c_faultLim {j : Nat} (a v : Int32) : f_X5_faultOfLimit j a v σ = qan (if isR a = true ∧ ((5 : Int32) ≤ v ∧ v ≤ 20) then 46 else 97) σ := by
  unfold f_X5_faultOfLimit isR
  rw [e_isWithin, qb_I]
  cases decide ((0 : Int32) ≤ a ∧ a ≤ 2)
  · rw [if_pos (by rfl), if_pos rfl, if_neg (fun h => by cases h.1)]
  · rw [if_neg (by decide), e_isWithin, qb_I]
    by_cases h : (5 : Int32) ≤ v ∧ v ≤ 20
    · rw [decide_eq_true h, if_neg (by decide), if_neg (by decide), if_pos ⟨rfl, h⟩]
    · rw [decide_eq_false h, if_pos (by rfl), if_pos rfl, if_neg (fun hh => h hh.2)]
/-! marks -/
end CL2

