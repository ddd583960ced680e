/-! areLevelsRight answers 1 -/
section LV2
variable {P : qP} {hs : List qP} {σ : qS}
theorem l_176 {day : Nat} (hd : day < 200) : ∀ (d r m : Nat) (σ : qS), r + d = 3 → d < m → TSU σ P hs → ∃ σ', l_L_areLevelsRight_176 m (nI day) (nI (pn P)) (nI (pend P (pn P))) (pon P day (pn P)) 1 (nI r) σ = qan 1 σ' ∧ TS σ' P hs := by
  intro d
  induction d with
  | zero =>
    intro r m σ hr hm h
    have hn := h.1.1.1.1.1
    obtain ⟨m, rfl⟩ : ∃ m', m = m' + 1 := ⟨m - 1, by omega⟩
    obtain ⟨σ1, e1, h1⟩ := v_loop (show day < 2 ^ 31 by omega) (pn P) 0 qFU σ (by omega) (by decide) (by unfold qFU; omega) h.1
    refine ⟨σ1, ?_, h1⟩
    simp only [l_L_areLevelsRight_176, b_L_areLevelsRight_176]
    rw [if_pos (show (3 : Int32) ≤ nI r from nI_le (a := 3) (by omega) (by omega))]
    exact e1
  | succ d ih =>
    intro r m σ hr hm h
    have W := h.1.1.1.1
    obtain ⟨m, rfl⟩ : ∃ m', m = m' + 1 := ⟨m - 1, by omega⟩
    have hr3 : r < 3 := by omega
    obtain ⟨σ1, kt, m1, e1, k1, h1, U1, X1⟩ := l_days (rk := l_L_areLevelsRight_176 m) (day := day) (v4 := nI (pn P)) (v6 := pon P day (pn P)) hr3 (pend_bd W) (pend P (pn P)) 0 139 42 σ (by omega) rfl (Or.inl rfl) h.1 h.2 (x_c0 h.1.2.1)
    obtain ⟨σ2, e2, h2⟩ := l_res (rk := l_L_areLevelsRight_176 m) (m := m1) (v6 := pon P day (pn P)) ⟨h1, U1⟩ hr3 hd k1 X1
    obtain ⟨σ3, e3, h3⟩ := ih (r + 1) m σ2 (by omega) (by omega) h2
    refine ⟨σ3, ?_, h3⟩
    simp only [l_L_areLevelsRight_176, b_L_areLevelsRight_176]
    rw [if_neg (show ¬ (3 : Int32) ≤ nI r from nI_ge (b := 3) (by omega) (by decide))]
    have e1' : l_L_areLevelsRight_195 (l_L_areLevelsRight_176 m) 139 (nI day) (nI (pn P)) (nI (pend P (pn P))) (pon P day (pn P)) 1 (nI r) 0 0 42 0 σ = _ := e1
    rw [e1', e2]
    exact e3
theorem last_lev (W : PW P) : plast P (fun t => nI (pV P t)) = nI (pend P (pn P)) := by
  have hn := W.1
  have hE := pend_bd W
  have sum : ∀ u, u < pn P → (nI (pV P u) + pf P 0 u).toInt = ((pV P u + pdn P u : Nat) : Int) := fun u hu => by
    have := pV_le W hu
    rw [(W.dn hu).1, nI_add, nI_toInt (by omega)]
  have h1 : (plast P (fun t => nI (pV P t))).toInt ≤ ((pend P (pn P) : Nat) : Int) := plast_le.mpr ⟨by omega, fun u hu => by
    rw [sum u hu]
    have := (pend_le W (pn P) (Nat.le_refl _) _).mp (Nat.le_refl (pend P (pn P))) u (pst_full W hu)
    show ((pV P u + pdn P u : Nat) : Int) ≤ _
    unfold pV
    omega⟩
  have h2 := plast_le.mp (Int.le_refl (plast P (fun t => nI (pV P t))).toInt)
  have h3 : pend P (pn P) ≤ (plast P (fun t => nI (pV P t))).toInt.toNat := by
    rw [pend_le W (pn P) (Nat.le_refl _)]
    intro u hu
    have hu2 := ((pst_spec W (pn P) (Nat.le_refl _)).2 u hu).1
    have := h2.2 u hu2
    rw [sum u hu2] at this
    have e : (pst P (pn P)).2 u = pV P u := rfl
    rw [e]
    omega
  apply i_eq
  rw [nI_toInt (by omega)]
  omega
theorem l_levels (h : TSU σ P hs) {day : Nat} (hd : day < 200) : ∃ σ', f_L_areLevelsRight (nI day) σ = qan 1 σ' ∧ TS σ' P hs := by
  have W := h.1.1.1.1
  have hn := W.1
  obtain ⟨σ1, e1, Q1, I1, S1⟩ := m_levelledLength h.1.1.1 h.1.1.2
  have h1 := h.qt Q1 I1 S1
  obtain ⟨σ2, e2, Q2, I2, S2⟩ := m_usage h1.1.1.1 h1.1.1.2 (r := 0) (d := 2147483647) (by decide) (by decide)
  have h2 := h1.qt Q2 I2 S2
  obtain ⟨σ3, e3, Q3, h3⟩ := l_99 (show day < 2 ^ 31 by omega) (pn P) 0 qFU σ2 (by omega) (by unfold qFU; omega) h2.1
  have U3 : Use σ3 (pUf P) := fun r hr => by rw [Q3.wk 50 (4 + r) (by omega)]; exact h2.2 r hr
  obtain ⟨σ4, e4, h4⟩ := l_176 hd 3 0 4 σ3 rfl (by decide) ⟨h3, U3⟩
  refine ⟨σ4, ?_, h4⟩
  rw [pUf_none W (show 138 ≤ 2147483647 by decide)] at e2
  have e2 : f_X7_usageZ (0 : Int32) (2147483647 : Int32) σ1 = qan 0 σ2 := e2
  unfold f_L_areLevelsRight
  rw [l_last h.1.1.1 h.1.2.2, qb_I, last_lev W, e1, qb_I, if_pos rfl, n_ofl (h.1.2.2.len (by omega)), a_level h1.1.1.1, qb_I, if_pos rfl, a_usage1, qb_I, if_pos rfl, a_usage2, qb_I, if_pos rfl, a_tasksOn, qb_I, if_pos rfl, e2, qb_I, if_pos rfl]
  have e3' : l_L_areLevelsRight_99 qFU (nI day) (nI (pn P)) (nI (pend P (pn P))) 0 1 0 σ2 = _ := e3
  rw [e3']
  exact e4
end LV2
