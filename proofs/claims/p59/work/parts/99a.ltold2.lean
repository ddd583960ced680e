/-! the first part of a task's line -/
section TU
variable {P : qP} {hs : List qP} {σ σ' : qS}
theorem l_head (h : TS σ P hs) {t : Nat} (ht : t < pn P) {rk : Int32 → Int32 → Int32 → qS → Option qO} {v2 v3 v5 : Int32} :
    ∃ σ', (qlet (qrw σ 62 0 (fun _ => 0)) (fun s5 => qbind (f_J4_init_da8c8 0 s5) (qvV (fun s6 => qbind (f_J4_append_bf812 0 0 (nI t) s6) (qvM 62 0 (fun s7 => j_L_areTasksTold_81 rk v2 v3 (nI t) v5 s7)) qE0)) qE0)) = l_L_areTasksTold_164 rk 13 v2 v3 (nI t) v5 0 σ' ∧ TS σ' P hs ∧ TX σ' 60 0 (tt2 P t) := by
  have W := h.1.1.1
  have hn := W.1
  have hd := W.dn ht
  have hm := W.mn ht
  have hr := W.rn ht
  have hv := pV_le W ht
  have z1 := dsz_2 (n := t) (by omega)
  have z2 := dsz_1 (n := pdn P t) (by omega)
  have z3 := dsz_1 (n := pmn P t) (by omega)
  have z4 := dsz_1 (n := prn P t) (by omega)
  have z5 := dsz_3 (pV P t)
  have h0 : TS (qrw σ 62 0 (fun _ => 0)) P hs := h.sn (qsn_qrw σ 62 0 _) (fun p hp => by rw [List.mem_singleton.mp hp]; show 60 ≤ 62; omega)
  obtain ⟨σ1, e1, B1, h1, -⟩ := s_init (j := 0) h0 (by rw [qrw_at])
  obtain ⟨σ2, e2, B2, h2, -⟩ := s_int h1 B1 (n := t) (by omega) (by simp only [List.length_nil]; omega)
  obtain ⟨σ3, e3, B3, h3, -⟩ := s_text h2 B2 (Or.inl rfl) (x_c2 h2.2.1) (by simp only [List.length_append, List.length_cons, List.length_nil, dgs_sz]; omega)
  obtain ⟨σ4, e4, B4, h4, -⟩ := s_int h3 B3 (n := pdn P t) (by omega) (by simp only [List.length_append, List.length_cons, List.length_nil, dgs_sz]; omega)
  obtain ⟨σ5, e5, B5, h5, -⟩ := s_text h4 B4 (Or.inl rfl) (x_c3 h4.2.1) (by simp only [List.length_append, List.length_cons, List.length_nil, dgs_sz]; omega)
  obtain ⟨σ6, e6, B6, h6, -⟩ := s_int h5 B5 (n := pmn P t) (by omega) (by simp only [List.length_append, List.length_cons, List.length_nil, dgs_sz]; omega)
  obtain ⟨σ7, e7, B7, h7, -⟩ := s_text h6 B6 (Or.inl rfl) (x_c4 h6.2.1) (by simp only [List.length_append, List.length_cons, List.length_nil, dgs_sz]; omega)
  obtain ⟨σ8, e8, B8, h8, -⟩ := s_int h7 B7 (n := prn P t) (by omega) (by simp only [List.length_append, List.length_cons, List.length_nil, dgs_sz]; omega)
  obtain ⟨σ9, e9, B9, h9, -⟩ := s_text h8 B8 (Or.inl rfl) (x_c5 h8.2.1) (by simp only [List.length_append, List.length_cons, List.length_nil, dgs_sz]; omega)
  obtain ⟨σ10, e10, B10, h10, -⟩ := s_int h9 B9 (n := pV P t) (by omega) (by simp only [List.length_append, List.length_cons, List.length_nil, dgs_sz]; omega)
  have B10' : BT σ10 0 16 (tt1 P t) := B10
  have l1 : (tt1 P t).length ≤ 12 := by
    unfold tt1
    simp only [List.length_append, List.length_cons, List.length_nil, dgs_sz]
    omega
  obtain ⟨σ11, e11, Q11, I11, S11⟩ := m_critical h10.1.1 h10.1.2 ht
  have h11 := h10.qt Q11 I11 S11
  have B11 : BT σ11 0 16 (tt1 P t) := B10'.tr (Q11.wk 62 0 (by omega)) (Q11.wk 63 0 (by omega))
  have R9 := h9.2.2
  rw [qlet_eq, e1, qb_V, e2, qb_M]
  unfold j_L_areTasksTold_81
  rw [e3, qb_M, m_duration h3.1.1 ht, qb_I, hd.1, e4, qb_M]
  unfold j_L_areTasksTold_96
  rw [e5, qb_M, m_demand h5.1.1 ht, qb_I, hm.1, e6, qb_M]
  unfold j_L_areTasksTold_111
  rw [e7, qb_M, m_resource h7.1.1 ht, qb_I, hr.1, e8, qb_M]
  unfold j_L_areTasksTold_126
  rw [e9, qb_M, if_pos (by rw [R9.len (by omega)]; exact n_in (by omega) (by omega)), nI_clamp (by omega), R9.2 t ht, e10, qb_M, e11, qb_I]
  unfold tt2
  by_cases hc : pL P t = pE P t
  · obtain ⟨σ12, e12, B12, h12, -⟩ := s_text h11 B11 (Or.inl rfl) (x_c6 h11.2.1) (by simp only [List.length_cons, List.length_nil]; omega)
    obtain ⟨σ13, e13, X13, q13⟩ := b_toString (NB := 16) B12 (by simp only [List.length_append, List.length_cons, List.length_nil]; omega) (by decide) (by simp only [List.length_append, List.length_cons, List.length_nil]; omega)
    refine ⟨σ13, ?_, h12.sn q13 k3t, ?_⟩
    · rw [decide_eq_true hc, if_neg (by decide), e12, qb_M, e13, qb_M]
    · rw [if_pos hc]; exact X13
  · obtain ⟨σ12, e12, B12, h12, -⟩ := s_text h11 B11 (Or.inl rfl) (x_c0 h11.2.1) (by simp only [List.length_nil]; omega)
    rw [List.append_nil] at B12
    obtain ⟨σ13, e13, X13, q13⟩ := b_toString (NB := 16) B12 (by omega) (by decide) (by omega)
    refine ⟨σ13, ?_, h12.sn q13 k3t, ?_⟩
    · rw [decide_eq_false hc, if_pos (by rfl), e12, qb_M, e13, qb_M]
    · rw [if_neg hc]; exact X13
end TU
