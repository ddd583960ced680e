/-! THE RANKS BY START, as the law checks them -/
section RS
variable {P : qP} {hs : List qP} {σ : qS}
theorem v_end (h : TS σ P hs) {k m day : Nat} (hk : pn P ≤ k + 1) (hk2 : k < 1000) (hd : day < 2 ^ 31) : ∃ σ', l_L_areLevelsRight_418 (m + 1) (nI day) (nI (pn P)) (fo (fun t a => if pwd P t day = true then a + 1 else a) (pn P) 0 0) 1 (nI k) σ = qan 1 σ' ∧ TS σ' P hs := by
  have W := h.1.1.1
  have hn := W.1
  obtain ⟨σ1, e1, Q1, I1, S1⟩ := m_tasksOn h.1.1 h.1.2 hd
  have h1 := h.qt Q1 I1 S1
  obtain ⟨σ2, e2, Q2, I2, S2⟩ := a_byStart h1.1.1 h1.1.2 0
  have h2 := h1.qt Q2 I2 S2
  obtain ⟨σ3, e3, Q3, I3, S3⟩ := m_consistent h2.1.1 h2.1.2
  refine ⟨σ3, ?_, h2.qt Q3 I3 S3⟩
  simp only [l_L_areLevelsRight_418, b_L_areLevelsRight_418]
  rw [nI_1, if_pos (nI_le (by omega) (by omega)), if_neg (by decide), e1, qb_I, if_pos rfl, e2, qb_I, if_pos rfl, e3, qb_I, if_neg (by decide)]
theorem v_loop {day : Nat} (hdy : day < 2 ^ 31) : ∀ (d k m : Nat) (σ : qS), pn P ≤ k + 1 + d → k < 1000 → d < m → TS σ P hs →
    ∃ σ', l_L_areLevelsRight_418 m (nI day) (nI (pn P)) (fo (fun t a => if pwd P t day = true then a + 1 else a) (pn P) 0 0) 1 (nI k) σ = qan 1 σ' ∧ TS σ' P hs := by
  intro d
  induction d with
  | zero =>
    intro k m σ hk hk2 hm h
    obtain ⟨m, rfl⟩ : ∃ m', m = m' + 1 := ⟨m - 1, by omega⟩
    exact v_end h (by omega) hk2 hdy
  | succ d ih =>
    intro k m σ hk hk2 hm h
    have W := h.1.1.1
    have hn := W.1
    obtain ⟨m, rfl⟩ : ∃ m', m = m' + 1 := ⟨m - 1, by omega⟩
    by_cases hlt : pn P ≤ k + 1
    · exact v_end h hlt hk2 hdy
    · obtain ⟨t, ht, rt, gt⟩ := rank_at (A := vA P) (B := vB P) W (show k < pn P by omega)
      obtain ⟨u, hu, ru, gu⟩ := rank_at (A := vA P) (B := vB P) W (show k + 1 < pn P by omega)
      have hrb := rb_of_rank (A := vA P) (B := vB P) ht hu (by omega)
      unfold rb at hrb
      have hrb := of_decide_eq_true hrb
      obtain ⟨σ1, e1, Q1, I1, S1⟩ := m_byStart h.1.1 h.1.2 ht gt
      have h1 := h.qt Q1 I1 S1
      obtain ⟨σ2, e2, Q2, I2, S2⟩ := m_byStart h1.1.1 h1.1.2 hu gu
      have h2 := h1.qt Q2 I2 S2
      obtain ⟨σ3, e3, h3⟩ := ih (k + 1) m σ2 (by omega) (by omega) (by omega) h2
      refine ⟨σ3, ?_, h3⟩
      have bt := pV_le W ht
      have bu := pV_le W hu
      have dt := (W.2.1 t ht).2.2.1
      have du := (W.2.1 u hu).2.2.1
      have x3 : (nI (pV P u) - nI (pV P t)).toInt = (pV P u : Int) - (pV P t : Int) := by
        rw [i_sub (by rw [nI_toInt (by omega)]; omega) (by rw [nI_toInt (by omega)]; omega) (by rw [nI_toInt (by omega)]; omega) (by rw [nI_toInt (by omega)]; omega), nI_toInt (by omega), nI_toInt (by omega)]
      have x4 : (pf P 2 t - pf P 2 u).toInt = (pf P 2 t).toInt - (pf P 2 u).toInt := i_sub (by omega) (by omega) (by omega) (by omega)
      have z0 : (0 : Int32).toInt = 0 := rfl
      simp only [l_L_areLevelsRight_418, b_L_areLevelsRight_418]
      rw [nI_1, if_neg (nI_ge (by omega) (by omega)), e1, qb_I, e2, qb_I, if_pos (by rw [h2.2.2.len (by omega)]; exact n_in (by omega) (by omega)), if_pos (by rw [h2.2.2.len (by omega)]; exact n_in (by omega) (by omega)), m_demand h2.1.1 ht, qb_I, m_demand h2.1.1 hu, qb_I, if_neg (by decide), nI_clamp (show u < 2 ^ 31 by omega), nI_clamp (show t < 2 ^ 31 by omega), h2.2.2.2 u hu, h2.2.2.2 t ht]
      rcases hrb with h | ⟨h1, h | ⟨h2, h3⟩⟩
      · rw [if_pos (by rw [i_lt, x3, z0]; show (0 : Int) < vA P u - vA P t; omega)]
        exact e3
      · rw [if_neg (by rw [i_lt, x3, z0]; show ¬ (0 : Int) < vA P u - vA P t; omega), if_pos (i_eq (by rw [x3, z0]; show vA P u - vA P t = 0; omega)), if_pos (by rw [i_lt, x4, z0]; show (0 : Int) < vB P t - vB P u; omega)]
        exact e3
      · rw [if_neg (by rw [i_lt, x3, z0]; show ¬ (0 : Int) < vA P u - vA P t; omega), if_pos (i_eq (by rw [x3, z0]; show vA P u - vA P t = 0; omega)), if_neg (by rw [i_lt, x4, z0]; show ¬ (0 : Int) < vB P t - vB P u; omega), if_pos (i_eq (by rw [x4, z0]; show vB P t - vB P u = 0; omega)), if_neg (nI_ge (by omega) (by omega))]
        exact e3
end RS
