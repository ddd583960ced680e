/-! areTasksTold answers 1 -/
section TW
variable {P : qP} {hs : List qP} {σ σ' : qS}
theorem phs_base (W : PW P) {t : Nat} (ht : t < pn P) (h : phs P t = true) : ¬ ph P = 0 ∧ 0 ≤ pf P 5 t := by
  unfold phs at h
  have h1 : ¬ pf P 5 t = -1 := by simpa using h
  refine ⟨fun h0 => h1 (W.2.2.2.2.2 h0 t ht), ?_⟩
  have h2 := (W.2.1 t ht).2.2.2.2.2.1
  have h3 : ¬ (pf P 5 t).toInt = -1 := fun e => h1 (i_eq e)
  rw [i_le, show (0 : Int32).toInt = 0 from rfl]
  omega
theorem l_287 (h : TS σ P hs) {t : Nat} (ht : t < pn P) (X : TX σ 60 0 (ntx P t (pn P) 0 (tt2 P t))) {rk : Int32 → Int32 → Int32 → qS → Option qO} {v2 : Int32} : ∃ σ', j_L_areTasksTold_287 rk v2 (nI t) σ = rk v2 1 (nI (t + 1)) σ' ∧ TS σ' P hs := by
  obtain ⟨σ1, e1, Q1, I1, S1, O1⟩ := m_renderTask h.1.1 h.1.2 ht
  have X1 : TX σ1 60 0 (ntx P t (pn P) 0 (tt2 P t)) := X.tr (Q1.wk 60 0 (by omega)) (Q1.wk (qvk 60) 0 (by simp [qvk]))
  refine ⟨σ1, ?_, h.qt Q1 I1 S1⟩
  unfold j_L_areTasksTold_287
  rw [e1, qb_I, l_line X1 O1, qb_I, if_neg (by decide), nI_1]
theorem l_end (h : TS σ P hs) {t m : Nat} (ht : t < pn P) (X : TX σ 60 0 (ntx P t (pn P) 0 (tt2 P t))) {rk : Int32 → Int32 → Int32 → qS → Option qO} {v2 : Int32} : ∃ σ', l_L_areTasksTold_164 rk (m + 1) v2 1 (nI t) (pbs P t) (nI (pn P)) σ = rk v2 1 (nI (t + 1)) σ' ∧ TS σ' P hs := by
  have W := h.1.1.1
  have hn := W.1
  obtain ⟨σ1, e1, Q1, I1, S1⟩ := a_drift h.1.1 h.1.2 ht 0
  have h1 := h.qt Q1 I1 S1
  have X1 : TX σ1 60 0 (ntx P t (pn P) 0 (tt2 P t)) := X.tr (Q1.wk 60 0 (by omega)) (Q1.wk (qvk 60) 0 (by simp [qvk]))
  obtain ⟨σ2, e2, h2⟩ := l_287 (rk := rk) (v2 := v2) h1 ht X1
  refine ⟨σ2, ?_, h2⟩
  simp only [l_L_areTasksTold_164, b_L_areTasksTold_164]
  rw [if_pos (by rw [n_ofl (h.2.2.len (by omega))]; exact Int32.le_refl _), if_neg (by decide), e1, qb_I]
  unfold pbs
  cases hp : phs P t
  · have hv : (if false = true then pf P 5 t else (-2004 : Int32)) = -2004 := rfl
    have hw : (if false = true then pdr P t + 5000 else (-2004 : Int32)) = -2004 := rfl
    rw [hv, hw, if_neg (by decide)]
    unfold j_L_areTasksTold_269
    rw [if_pos rfl, m_hasBase I1, qb_I, if_pos rfl, ite_self]
    exact e2
  · obtain ⟨b1, b2⟩ := phs_base W ht hp
    rw [if_pos rfl, if_pos rfl, if_pos b2, if_pos (by rw [h1.2.2.len (by omega)]; exact n_in (by omega) (by omega)), nI_clamp (by omega), h1.2.2.2 t ht]
    unfold j_L_areTasksTold_269
    rw [if_pos (by rfl), m_hasBase I1, qb_I, if_neg b1]
    exact e2
def pds (P : qP) (i : Nat) : Int32 := fo (fun t a => if phs P t = true then a + qabs (pdr P t) else a) i 0 0
theorem pds_s (P : qP) (i : Nat) : pds P (i + 1) = if phs P i = true then pds P i + qabs (pdr P i) else pds P i := by
  unfold pds
  rw [fo_last, Nat.zero_add]
theorem l_told_end (h : TS σ P hs) {m : Nat} : ∃ σ', l_L_areTasksTold_26 (m + 1) (pds P (pn P)) 1 (nI (pn P)) σ = qan 1 σ' ∧ TS σ' P hs := by
  have W := h.1.1.1
  have hn := W.1
  obtain ⟨σ1, e1, Q1, I1, S1⟩ := a_total h.1.1 h.1.2
  refine ⟨σ1, ?_, h.qt Q1 I1 S1⟩
  simp only [l_L_areTasksTold_26, b_L_areTasksTold_26]
  rw [if_pos (by rw [n_ofl (h.2.2.len (by omega))]; exact Int32.le_refl _), if_neg (by decide), e1, qb_I, m_hasBase I1, qb_I]
  by_cases h0 : ph P = 0
  · rw [if_pos h0, if_pos h0, if_pos rfl]
  · rw [if_neg h0, if_neg h0, if_pos (by rfl)]
theorem tt2_short (W : PW P) {t : Nat} (ht : t < pn P) : (tt2 P t).length ≤ 13 := by
  have hn := W.1
  have hd := W.dn ht
  have hm := W.mn ht
  have hr := W.rn ht
  have z1 := dsz_2 (n := t) (by omega)
  have z2 := dsz_1 (n := pdn P t) (by omega)
  have z3 := dsz_1 (n := pmn P t) (by omega)
  have z4 := dsz_1 (n := prn P t) (by omega)
  have z5 := dsz_3 (pV P t)
  unfold tt2 tt1
  split
  · simp only [List.length_append, List.length_cons, List.length_nil, dgs_sz]
    omega
  · simp only [List.length_append, List.length_cons, List.length_nil, dgs_sz]
    omega
theorem l_told_loop : ∀ (d i m : Nat) (σ : qS), i + d = pn P → d < m → TS σ P hs → ∃ σ', l_L_areTasksTold_26 m (pds P i) 1 (nI i) σ = qan 1 σ' ∧ TS σ' P hs := by
  intro d
  induction d with
  | zero =>
    intro i m σ hi hm h
    obtain ⟨m, rfl⟩ : ∃ m', m = m' + 1 := ⟨m - 1, by omega⟩
    have hi : i = pn P := by omega
    subst hi
    exact l_told_end h
  | succ d ih =>
    intro i m σ hi hm h
    have W := h.1.1.1
    have hn := W.1
    obtain ⟨m, rfl⟩ : ∃ m', m = m' + 1 := ⟨m - 1, by omega⟩
    have hti : i < pn P := by omega
    have hs2 := tt2_short W hti
    obtain ⟨σ1, e1, h1, X1⟩ := l_head (rk := l_L_areTasksTold_26 m) (v2 := pds P (i + 1)) (v3 := 1) (v5 := pbs P i) h hti
    obtain ⟨σ2, m2, e2, h2, X2⟩ := l_needs (rk := l_L_areTasksTold_26 m) (v2 := pds P (i + 1)) (v3 := 1) (v5 := pbs P i) hti (pn P) 0 13 σ1 (tt2 P i) (by omega) (by omega) h1 X1 (by omega)
    obtain ⟨σ3, e3, h3⟩ := l_end (rk := l_L_areTasksTold_26 m) (v2 := pds P (i + 1)) (m := m2) h2 hti X2
    obtain ⟨σ4, e4, h4⟩ := ih (i + 1) m σ3 (by omega) (by omega) h3
    refine ⟨σ4, ?_, h4⟩
    have e0 : l_L_areTasksTold_164 (l_L_areTasksTold_26 m) 13 (pds P (i + 1)) 1 (nI i) (pbs P i) 0 σ1 = qan 1 σ4 := by
      show l_L_areTasksTold_164 (l_L_areTasksTold_26 m) 13 (pds P (i + 1)) 1 (nI i) (pbs P i) (nI 0) σ1 = qan 1 σ4
      rw [e2, e3, e4]
    rw [e0] at e1
    have hp := pds_s P i
    simp only [l_L_areTasksTold_26, b_L_areTasksTold_26]
    rw [if_neg (by rw [n_ofl (h.2.2.len (by omega))]; exact nI_ge (by omega) (by omega)), a_base h.1.1 hti, qb_I]
    cases hb : phs P i
    · have hv : pbs P i = -2004 := by unfold pbs; rw [hb, if_neg (by decide)]
      rw [hb, if_neg (by decide)] at hp
      rw [hv, hp] at e1
      rw [hv, if_neg (by decide), Int32.add_zero]
      exact e1
    · obtain ⟨b1, b2⟩ := phs_base W hti hb
      have hv : pbs P i = pf P 5 i := by unfold pbs; rw [hb, if_pos rfl]
      rw [hb, if_pos rfl] at hp
      rw [hv, hp] at e1
      rw [hv, if_pos b2, if_pos (by rw [h.2.2.len (by omega)]; exact n_in (by omega) (by omega)), nI_clamp (by omega), h.2.2.2 i hti]
      exact e1
theorem l_told (h : TS σ P hs) : ∃ σ', f_L_areTasksTold σ = qan 1 σ' ∧ TS σ' P hs := by
  have W := h.1.1.1
  have hn := W.1
  obtain ⟨σ1, e1, h1⟩ := l_told_loop (pn P) 0 13 σ (by omega) (by omega) h
  refine ⟨σ1, ?_, h1⟩
  unfold f_L_areTasksTold
  rw [n_ofl (h.2.2.len (by omega)), a_base0 h.1.1, qb_I, if_pos rfl]
  exact e1
end TW
