/-! THE LEVELS of the tasks, as the law checks them -/
section LW
variable {P : qP} {hs : List qP} {σ : qS}
def pon (P : qP) (day i : Nat) : Int32 := fo (fun t a => if pwd P t day = true then a + 1 else a) i 0 0
theorem pon_s (P : qP) (day i : Nat) : pon P day i + qb1 (pwd P i day) = pon P day (i + 1) := by
  unfold pon
  rw [fo_last, Nat.zero_add]
  cases pwd P i day
  · rw [qb1_f, if_neg (by decide), Int32.add_zero]
  · rw [qb1_t, if_pos rfl]
theorem l_136 (h : TS σ P hs) {i day : Nat} (hi : i < pn P) {rk : Int32 → Int32 → Int32 → Int32 → Int32 → Int32 → qS → Option qO} {v3 v4 v5 : Int32} : ∃ σ', j_L_areLevelsRight_136 rk v3 v4 v5 1 (nI i) (pon P day i) (qb1 (pwd P i day)) σ = rk v3 v4 v5 (pon P day (i + 1)) 1 (nI (i + 1)) σ' ∧ Qt σ σ' ∧ TS σ' P hs := by
  have W := h.1.1.1
  have hn := W.1
  obtain ⟨σ1, e1, Q1, I1, S1⟩ := m_level h.1.1 h.1.2 hi
  have h1 := h.qt Q1 I1 S1
  refine ⟨σ1, ?_, Q1, h1⟩
  unfold j_L_areLevelsRight_136
  rw [e_told, qb_I, if_neg (by decide), e1, qb_I, if_pos (by rw [h1.2.2.len (by omega)]; exact n_in (by omega) (by omega)), nI_clamp (by omega), h1.2.2.2 i hi, if_pos rfl, pon_s, nI_1]
theorem l_99 {day : Nat} (hdy : day < 2 ^ 31) : ∀ (d i m : Nat) (σ : qS), i + d = pn P → d < m → TS σ P hs →
    ∃ σ', l_L_areLevelsRight_99 m (nI day) (nI (pn P)) (nI (pend P (pn P))) (pon P day i) 1 (nI i) σ = l_L_areLevelsRight_176 4 (nI day) (nI (pn P)) (nI (pend P (pn P))) (pon P day (pn P)) 1 0 σ' ∧ Qt σ σ' ∧ TS σ' P hs := by
  intro d
  induction d with
  | zero =>
    intro i m σ hi hm h
    obtain ⟨m, rfl⟩ : ∃ m', m = m' + 1 := ⟨m - 1, by omega⟩
    have hi : i = pn P := by omega
    subst hi
    refine ⟨σ, ?_, Qt.refl σ, h⟩
    simp only [l_L_areLevelsRight_99, b_L_areLevelsRight_99]
    rw [if_pos (Int32.le_refl _)]
  | succ d ih =>
    intro i m σ hi hm h
    have W := h.1.1.1
    have hn := W.1
    obtain ⟨m, rfl⟩ : ∃ m', m = m' + 1 := ⟨m - 1, by omega⟩
    have hti : i < pn P := by omega
    have hv := pV_le W hti
    obtain ⟨σ1, e1, Q1, h1⟩ := l_136 (rk := l_L_areLevelsRight_99 m) (day := day) (v3 := nI day) (v4 := nI (pn P)) (v5 := nI (pend P (pn P))) h hti
    obtain ⟨σ2, e2, Q2, h2⟩ := ih (i + 1) m σ1 (by omega) (by omega) h1
    refine ⟨σ2, ?_, Q1.trans Q2, h2⟩
    have hq : qin (nI i) (qln (σ 50 3)) := by rw [h.2.2.len (by omega)]; exact n_in (by omega) (by omega)
    rw [← e2, ← e1]
    simp only [l_L_areLevelsRight_99, b_L_areLevelsRight_99]
    rw [if_neg (nI_ge (by omega) (by omega)), if_pos hq, nI_clamp (by omega), h.2.2.2 i hti]
    unfold pwd
    by_cases a1 : day < pV P i
    · rw [if_pos ((n_lt hdy (by omega)).mpr a1), decide_eq_false (by omega)]
      rfl
    · rw [if_neg (fun h2 => a1 ((n_lt hdy (by omega)).mp h2)), if_pos hq, m_duration h.1.1 hti, qb_I, (W.dn hti).1, nI_add]
      by_cases a2 : pV P i + pdn P i ≤ day
      · rw [if_pos ((n_le (by omega) hdy).mpr a2), decide_eq_false (by omega)]
        rfl
      · rw [if_neg (fun h2 => a2 ((n_le (by omega) hdy).mp h2)), decide_eq_true (by omega)]
        rfl
end LW
