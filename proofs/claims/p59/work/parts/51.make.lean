/-! the whole plan of the class -/
def PlanOK (P : qP) (σ : qS) : Prop := (∀ k, k < pn P → σ 12 0 k = nI (pord P k)) ∧ (∀ x, x < pn P → ∀ u, qbit (σ 13 0 x) u = prea P x u) ∧ (∀ t, t < pn P → σ 14 0 t = pE P t) ∧ (∀ t, t < pn P → σ 15 0 t = pE P t) ∧ (∀ t, t < pn P → σ 16 0 t = pL P t) ∧
  LvC P σ (pst P (pn P)).1 (pst P (pn P)).2 ∧ σ 11 0 7 = plast P (pE P) ∧ σ 11 0 8 = nI (pend P (pn P))
abbrev qpk : List Nat := [11, 12, 13, 14, 15, 16, 17, 18]
section MK
variable {P : qP} {j : Nat}
theorem c_make (W : PW P) {σ : qS} (H : Rep σ j P) : ∃ σ', f_X4_make j σ = qdo σ' ∧ qsm qpk σ σ' ∧ PlanOK P σ' := by
  obtain ⟨σ1, e1, q1, a1⟩ := c_findOrder W H
  have H1 := H.same q1 (by simp)
  obtain ⟨σ2, e2, q2, a2⟩ := c_findClosure W H1
  have H2 := H1.same q2 (by simp)
  obtain ⟨σ3, e3, q3, a3, b3, -⟩ := c_findEarliest W H2
  have H3 := H2.same q3 (by simp)
  obtain ⟨σ4, e4, q4, a4⟩ := c_findImproved W H3
  have H4 := H3.same q4 (by simp)
  have o4 : ∀ k, k < pn P → σ4 12 0 k = nI (pord P k) := fun k hk => by rw [q4 12 0 (by simp), q3 12 0 (by simp), q2 12 0 (by simp)]; exact a1 k hk
  obtain ⟨σ5, e5, q5, a5⟩ := c_findLatest W H4 o4 (by rw [q4 11 0 (by simp)]; exact b3)
  have H5 := H4.same q5 (by simp)
  obtain ⟨σ6, e6, q6, a6, b6, c6, -⟩ := c_findLevelled W H5 a5
  refine ⟨σ6, ?_, ?_, ?_⟩
  · unfold f_X4_make
    rw [e1, qb_V, e2, qb_V, e3, qb_V, e4, qb_V, e5, qb_V, e6, qb_V]
  · exact (q1.mono (by simp)).trans ((q2.mono (by simp)).trans ((q3.mono (by simp)).trans ((q4.mono (by simp)).trans ((q5.mono (by simp)).trans (q6.mono (by simp))))))
  · refine ⟨fun k hk => ?_, fun x hx u => ?_, fun t ht => ?_, fun t ht => ?_, fun t ht => ?_, a6, ?_, b6⟩
    · rw [q6 12 0 (by simp), q5 12 0 (by simp)]; exact o4 k hk
    · rw [q6 13 0 (by simp), q5 13 0 (by simp), q4 13 0 (by simp), q3 13 0 (by simp)]; exact a2 x hx u
    · rw [q6 14 0 (by simp), q5 14 0 (by simp), q4 14 0 (by simp)]; exact a3 t ht
    · rw [q6 15 0 (by simp), q5 15 0 (by simp)]; exact a4 t ht
    · rw [q6 16 0 (by simp)]; exact a5 t ht
    · rw [c6 7 (by decide), q5 11 0 (by simp), q4 11 0 (by simp)]; exact b3
theorem PlanOK.same {ks : List Nat} {σ σ' : qS} (h : PlanOK P σ) (q : qsm ks σ σ') (hk : ∀ k ∈ ks, k < 11 ∨ 18 < k) : PlanOK P σ' := by
  have e : ∀ a, 11 ≤ a → a ≤ 18 → ∀ b, σ' a b = σ a b := fun a h1 h2 b => q a b (fun h3 => by have := hk a h3; omega)
  obtain ⟨h1, h2, h3, h4, h5, h6, h7, h8⟩ := h
  exact ⟨fun k hk => by rw [e 12 (by omega) (by omega)]; exact h1 k hk, fun x hx u => by rw [e 13 (by omega) (by omega)]; exact h2 x hx u, fun t ht => by rw [e 14 (by omega) (by omega)]; exact h3 t ht, fun t ht => by rw [e 15 (by omega) (by omega)]; exact h4 t ht, fun t ht => by rw [e 16 (by omega) (by omega)]; exact h5 t ht,
    h6.same q (fun h => by have := hk _ h; omega) (fun h => by have := hk _ h; omega), by rw [e 11 (by omega) (by omega)]; exact h7, by rw [e 11 (by omega) (by omega)]; exact h8⟩
end MK
/-! the reference's starts -/
section RS
variable {P : qP}
/-- what the latest starts lie between -/
def LBt (P : qP) (f : Nat → Int32) : Prop := ∀ t, t < pn P → (pL P t).toInt ≤ (f t).toInt ∧ (f t).toInt ≤ (plast P (pE P)).toInt - (pf P 0 t).toInt
theorem pL_le (W : PW P) {t : Nat} (ht : t < pn P) : (pL P t).toInt ≤ (plast P (pE P)).toInt - (pf P 0 t).toInt ∧ ∀ o, o < pn P → ped P o t = true → (pL P t).toInt ≤ (pL P o).toInt - (pf P 0 t).toInt := by
  have hl := plast_bd W
  have a1 := (W.2.1 t ht).1
  have a4 : (plat P (pL P) t).toInt ≤ (plat P (pL P) t).toInt := Int.le_refl _
  rw [plat_ge] at a4
  have a5 : -1000 ≤ (plat P (pL P) t).toInt := by
    rw [plat_ge]
    exact ⟨by omega, fun o ho e => by have := pL_bd W ho; omega⟩
  rw [pL_is W t ht, i_sub (by omega) (by omega) (by omega) (by omega)]
  exact ⟨by omega, fun o ho e => by have := a4.2 o ho e; omega⟩
theorem pL_ge (W : PW P) {t : Nat} (ht : t < pn P) {x : Int} (h1 : x ≤ (plast P (pE P)).toInt - (pf P 0 t).toInt) (h2 : ∀ o, o < pn P → ped P o t = true → x ≤ (pL P o).toInt - (pf P 0 t).toInt) : x ≤ (pL P t).toInt := by
  have hl := plast_bd W
  have a1 := (W.2.1 t ht).1
  have a4 : (plat P (pL P) t).toInt ≤ (plat P (pL P) t).toInt := Int.le_refl _
  rw [plat_ge] at a4
  have a5 : -1000 ≤ (plat P (pL P) t).toInt := by
    rw [plat_ge]
    exact ⟨by omega, fun o ho e => by have := pL_bd W ho; omega⟩
  have a6 : x + (pf P 0 t).toInt ≤ (plat P (pL P) t).toInt := by
    rw [plat_ge]
    exact ⟨by omega, fun o ho e => by have := h2 o ho e; omega⟩
  rw [pL_is W t ht, i_sub (by omega) (by omega) (by omega) (by omega)]
  omega
end RS

