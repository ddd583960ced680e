/-! the reference's starts: all its rounds -/
section RT
variable {P : qP}
theorem r_late_in (W : PW P) {rk : Int32 → qS → Option qO} {v2 : Int32} {h : Nat → Nat} (hh : ∀ t u, t < pn P → ped P t u = true → h u < h t) (hb : ∀ t, t < pn P → h t < pn P) {r : Nat} : ∀ (d i m : Nat) (σ : qS), i + d = pn P → d < m → RepR σ 27 0 P → LBt P (σ 32 0) → (∀ t, t < pn P → pn P - h t ≤ r → σ 32 0 t = pL P t) → (∀ t, t < i → pn P - h t ≤ r + 1 → σ 32 0 t = pL P t) →
    ∃ σ', l_X8_starts_131 rk m v2 (nI i) σ = rk (v2 + 1) σ' ∧ qsm [32] σ σ' ∧ LBt P (σ' 32 0) ∧ ∀ t, t < pn P → pn P - h t ≤ r + 1 → σ' 32 0 t = pL P t := by
  have hn := W.1
  intro d
  induction d with
  | zero =>
    intro i m σ hi hm H hB h1 h2
    obtain ⟨m, rfl⟩ : ∃ m', m = m' + 1 := ⟨m - 1, by omega⟩
    refine ⟨σ, ?_, qsm.refl _ _, hB, fun t ht => h2 t (by omega)⟩
    simp only [l_X8_starts_131, b_X8_starts_131]
    rw [if_pos (by rw [H.1]; exact nI_le (by omega) (by omega))]
  | succ d ih =>
    intro i m σ hi hm H hB h1 h2
    obtain ⟨m, rfl⟩ : ∃ m', m = m' + 1 := ⟨m - 1, by omega⟩
    have hin : i < pn P := by omega
    obtain ⟨σ1, e1, q1, b1, r1, r2, r3⟩ := r_puts_loop W hin (pn P) 0 qFU σ (by omega) (by unfold qFU; omega) H hB (fun o ho => by omega)
    have e1' : f_X8_puts (nI i) σ = qdo σ1 := e1
    simp only [l_X8_starts_131, b_X8_starts_131]
    rw [if_neg (by rw [H.1]; exact nI_ge (by omega) (by omega)), e1', qb_V, nI_1]
    have hi1 : pn P - h i ≤ r + 1 → σ1 32 0 i = pL P i := fun hhi => by
      apply i_eq
      have c1 := b1 i hin
      have c2 := pL_ge W hin (x := (σ1 32 0 i).toInt) c1.2 (fun o ho e => r2 o ho e (h1 o ho (by have := hh o i ho e; have := hb o ho; omega)))
      omega
    obtain ⟨σ2, e2, q2, b2, k2⟩ := ih (i + 1) m σ1 (by omega) (by omega) (H.same q1 (by simp)) b1 (fun t ht hr => by
      by_cases hti : t = i
      · subst hti; exact hi1 (by omega)
      · rw [r1 t hti]; exact h1 t ht hr) (fun t ht hr => by
      by_cases hti : t = i
      · subst hti; exact hi1 hr
      · rw [r1 t hti]; exact h2 t (by omega) hr)
    exact ⟨σ2, e2, q1.trans q2, b2, k2⟩
theorem r_late_out (W : PW P) {h : Nat → Nat} (hh : ∀ t u, t < pn P → ped P t u = true → h u < h t) (hb : ∀ t, t < pn P → h t < pn P) : ∀ (d r m : Nat) (σ : qS), r + d = pn P → d < m → RepR σ 27 0 P → LBt P (σ 32 0) → (∀ t, t < pn P → pn P - h t ≤ r → σ 32 0 t = pL P t) →
    ∃ σ', l_X8_starts_119 m (nI r) σ = qdo σ' ∧ qsm [32] σ σ' ∧ ∀ t, t < pn P → σ' 32 0 t = pL P t := by
  have hn := W.1
  intro d
  induction d with
  | zero =>
    intro r m σ hr hm H hB h1
    obtain ⟨m, rfl⟩ : ∃ m', m = m' + 1 := ⟨m - 1, by omega⟩
    refine ⟨σ, ?_, qsm.refl _ _, fun t ht => h1 t ht (by omega)⟩
    simp only [l_X8_starts_119, b_X8_starts_119]
    rw [if_pos (by rw [H.1]; exact nI_le (by omega) (by omega))]
  | succ d ih =>
    intro r m σ hr hm H hB h1
    obtain ⟨m, rfl⟩ : ∃ m', m = m' + 1 := ⟨m - 1, by omega⟩
    obtain ⟨σ1, e1, q1, b1, r1⟩ := r_late_in W (rk := l_X8_starts_119 m) (v2 := nI r) hh hb (r := r) (pn P) 0 qFU σ (by omega) (by unfold qFU; omega) H hB h1 (fun t ht => by omega)
    simp only [l_X8_starts_119, b_X8_starts_119]
    rw [if_neg (by rw [H.1]; exact nI_ge (by omega) (by omega)), show (0 : Int32) = nI 0 from rfl, e1, nI_1]
    obtain ⟨σ2, e2, q2, r2⟩ := ih (r + 1) m σ1 (by omega) (by omega) (H.same q1 (by simp)) b1 r1
    exact ⟨σ2, e2, q1.trans q2, r2⟩
theorem r_late_init (W : PW P) : ∀ (d i m : Nat) (σ : qS), i + d = pn P → d < m → RepR σ 27 0 P → (∀ t, t < i → σ 32 0 t = plast P (pE P) - pf P 0 t) →
    ∃ σ', l_X8_starts_87 m (plast P (pE P)) (nI i) σ = qdo σ' ∧ qsm [32] σ σ' ∧ ∀ t, t < pn P → σ' 32 0 t = pL P t := by
  have hn := W.1
  have hc : ∀ t u, t < pn P → ped P t u = true → u < pn P := fun t u h1 h2 => W.ed_lt h1 h2
  obtain ⟨h, hh, hb⟩ := g_rank hc W.2.2.2.1
  have hl := plast_bd W
  intro d
  induction d with
  | zero =>
    intro i m σ hi hm H h1
    obtain ⟨m, rfl⟩ : ∃ m', m = m' + 1 := ⟨m - 1, by omega⟩
    simp only [l_X8_starts_87, b_X8_starts_87]
    rw [if_pos (by rw [H.1]; exact nI_le (by omega) (by omega))]
    refine r_late_out W hh hb (pn P) 0 qFU σ (by omega) (by unfold qFU; omega) H (fun t ht => ?_) (fun t ht h0 => by have := hb t ht; omega)
    have a1 := (W.2.1 t ht).1
    rw [h1 t (by omega), i_sub (by omega) (by omega) (by omega) (by omega)]
    exact ⟨(pL_le W ht).1, Int.le_refl _⟩
  | succ d ih =>
    intro i m σ hi hm H h1
    obtain ⟨m, rfl⟩ : ∃ m', m = m' + 1 := ⟨m - 1, by omega⟩
    simp only [l_X8_starts_87, b_X8_starts_87]
    rw [if_neg (by rw [H.1]; exact nI_ge (by omega) (by omega)), r_dur H W (by omega), qb_I, if_pos (n_in (by omega) (by decide)), nI_clamp (by omega), qlet_eq, nI_1]
    have q1 := qsm_qu σ 32 0 i (plast P (pE P) - pf P 0 i)
    obtain ⟨σ2, e2, q2, r2⟩ := ih (i + 1) m _ (by omega) (by omega) (H.same q1 (by simp)) (fun t ht => by
      rw [qu_at]
      by_cases hti : t = i
      · subst hti; rw [if_pos ⟨rfl, rfl, rfl⟩]
      · rw [if_neg (fun h => hti h.2.2)]; exact h1 t (by omega))
    exact ⟨σ2, e2, q1.trans q2, r2⟩
theorem r_early_out (W : PW P) {h : Nat → Nat} (hh : ∀ t u, t < pn P → ped P t u = true → h u < h t) (hb : ∀ t, t < pn P → h t < pn P) : ∀ (d r m : Nat) (σ : qS), r + d = pn P → d < m → RepR σ 27 0 P → (∀ t, t < pn P → h t < r → σ 31 0 t = pE P t) →
    ∃ σ', l_X8_starts_27 m (nI r) σ = qdo σ' ∧ qsm [31, 32] σ σ' ∧ (∀ t, t < pn P → σ' 31 0 t = pE P t) ∧ ∀ t, t < pn P → σ' 32 0 t = pL P t := by
  have hn := W.1
  intro d
  induction d with
  | zero =>
    intro r m σ hr hm H h1
    obtain ⟨m, rfl⟩ : ∃ m', m = m' + 1 := ⟨m - 1, by omega⟩
    have hE : ∀ t, t < pn P → σ 31 0 t = pE P t := fun t ht => h1 t ht (by have := hb t ht; omega)
    simp only [l_X8_starts_27, b_X8_starts_27]
    rw [if_pos (by rw [H.1]; exact nI_le (by omega) (by omega)), r_lastOf W H rfl, qb_I, plast_congr hE]
    obtain ⟨σ2, e2, q2, r2⟩ := r_late_init W (pn P) 0 qFU σ (by omega) (by unfold qFU; omega) H (fun t ht => by omega)
    exact ⟨σ2, e2, q2.mono (by simp), fun t ht => by rw [q2 31 0 (by simp)]; exact hE t ht, r2⟩
  | succ d ih =>
    intro r m σ hr hm H h1
    obtain ⟨m, rfl⟩ : ∃ m', m = m' + 1 := ⟨m - 1, by omega⟩
    obtain ⟨σ1, e1, q1, r1⟩ := r_early_in W (rk := l_X8_starts_27 m) (v1 := nI r) hh (r := r) (pn P) 0 qFU σ (by omega) (by unfold qFU; omega) H h1 (fun t ht => by omega)
    simp only [l_X8_starts_27, b_X8_starts_27]
    rw [if_neg (by rw [H.1]; exact nI_ge (by omega) (by omega)), show (0 : Int32) = nI 0 from rfl, e1, nI_1]
    obtain ⟨σ2, e2, q2, r2⟩ := ih (r + 1) m σ1 (by omega) (by omega) (H.same q1 (by simp)) r1
    exact ⟨σ2, e2, (q1.mono (by simp)).trans q2, r2⟩
theorem r_starts0 (W : PW P) : ∀ (d i m : Nat) (σ : qS), i + d = pn P → d < m → RepR σ 27 0 P →
    ∃ σ', l_X8_starts_2 m (nI i) σ = qdo σ' ∧ qsm [31, 32] σ σ' ∧ (∀ t, t < pn P → σ' 31 0 t = pE P t) ∧ ∀ t, t < pn P → σ' 32 0 t = pL P t := by
  have hn := W.1
  have hc : ∀ t u, t < pn P → ped P t u = true → u < pn P := fun t u h1 h2 => W.ed_lt h1 h2
  obtain ⟨h, hh, hb⟩ := g_rank hc W.2.2.2.1
  intro d
  induction d with
  | zero =>
    intro i m σ hi hm H
    obtain ⟨m, rfl⟩ : ∃ m', m = m' + 1 := ⟨m - 1, by omega⟩
    simp only [l_X8_starts_2, b_X8_starts_2]
    rw [if_pos (by rw [H.1]; exact nI_le (by omega) (by omega))]
    exact r_early_out W hh hb (pn P) 0 qFU σ (by omega) (by unfold qFU; omega) H (fun t ht h0 => by omega)
  | succ d ih =>
    intro i m σ hi hm H
    obtain ⟨m, rfl⟩ : ∃ m', m = m' + 1 := ⟨m - 1, by omega⟩
    simp only [l_X8_starts_2, b_X8_starts_2]
    rw [if_neg (by rw [H.1]; exact nI_ge (by omega) (by omega)), if_pos (n_in (by omega) (by decide)), nI_clamp (by omega), qlet_eq, nI_1]
    have q1 := qsm_qu σ 31 0 i 0
    obtain ⟨σ2, e2, q2, r2⟩ := ih (i + 1) m (qu σ 31 0 i 0) (by omega) (by omega) (H.same q1 (by simp))
    exact ⟨σ2, e2, (q1.mono (by simp)).trans q2, r2⟩
theorem r_starts (W : PW P) {σ : qS} (H : RepR σ 27 0 P) : ∃ σ', f_X8_starts σ = qdo σ' ∧ qsm [31, 32] σ σ' ∧ (∀ t, t < pn P → σ' 31 0 t = pE P t) ∧ ∀ t, t < pn P → σ' 32 0 t = pL P t := by
  have hn := W.1
  exact r_starts0 W (pn P) 0 qFU σ (by omega) (by unfold qFU; omega) H
end RT
