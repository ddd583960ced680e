/-! the whole plan of the class -/
def PlanOK (P : qP) (σ : qS) : Prop := (∀ k, k < pn P → σ 12 0 k = nI (pord P k)) ∧ (∀ x, x < pn P → ∀ u, qbit (σ 13 0 x) u = prea P x u) ∧ (∀ t, t < pn P → σ 14 0 t = pE P t) ∧ (∀ t, t < pn P → σ 15 0 t = pE P t) ∧ (∀ t, t < pn P → σ 16 0 t = pL P t) ∧
  LvC P σ (pst P (pn P)).1 (pst P (pn P)).2 ∧ σ 11 0 7 = plast P (pE P) ∧ σ 11 0 8 = nI (pend P (pn P))
abbrev qpk : List Nat := [11, 12, 13, 14, 15, 16, 17, 18]
section MK
variable {P : qP} {j : Nat}
theorem c_make (W : PW P) {σ : qS} (H : Rep σ j P) : ∃ σ', f_X4_make j σ = qdo σ' ∧ qsm qpk σ σ' ∧ PlanOK P σ' := by
  obtain ⟨σ1, e1, q1, a1⟩ := c_findOrder W H
  have H1 := H.same q1 (by simp)
  obtain ⟨σ2, e2, q2, a2⟩ := c_findClosure W H1
  have H2 := H1.same q2 (by simp)
  obtain ⟨σ3, e3, q3, a3, b3, -⟩ := c_findEarliest W H2
  have H3 := H2.same q3 (by simp)
  obtain ⟨σ4, e4, q4, a4⟩ := c_findImproved W H3
  have H4 := H3.same q4 (by simp)
  have o4 : ∀ k, k < pn P → σ4 12 0 k = nI (pord P k) := fun k hk => by rw [q4 12 0 (by simp), q3 12 0 (by simp), q2 12 0 (by simp)]; exact a1 k hk
  obtain ⟨σ5, e5, q5, a5⟩ := c_findLatest W H4 o4 (by rw [q4 11 0 (by simp)]; exact b3)
  have H5 := H4.same q5 (by simp)
  obtain ⟨σ6, e6, q6, a6, b6, c6, -⟩ := c_findLevelled W H5 a5
  refine ⟨σ6, ?_, ?_, ?_⟩
  · unfold f_X4_make
    rw [e1, qb_V, e2, qb_V, e3, qb_V, e4, qb_V, e5, qb_V, e6, qb_V]
  · exact (q1.mono (by simp)).trans ((q2.mono (by simp)).trans ((q3.mono (by simp)).trans ((q4.mono (by simp)).trans ((q5.mono (by simp)).trans (q6.mono (by simp))))))
  · refine ⟨fun k hk => ?_, fun x hx u => ?_, fun t ht => ?_, fun t ht => ?_, fun t ht => ?_, a6, ?_, b6⟩
    · rw [q6 12 0 (by simp), q5 12 0 (by simp)]; exact o4 k hk
    · rw [q6 13 0 (by simp), q5 13 0 (by simp), q4 13 0 (by simp), q3 13 0 (by simp)]; exact a2 x hx u
    · rw [q6 14 0 (by simp), q5 14 0 (by simp), q4 14 0 (by simp)]; exact a3 t ht
    · rw [q6 15 0 (by simp), q5 15 0 (by simp)]; exact a4 t ht
    · rw [q6 16 0 (by simp)]; exact a5 t ht
    · rw [c6 7 (by decide), q5 11 0 (by simp), q4 11 0 (by simp)]; exact b3
theorem PlanOK.same {ks : List Nat} {σ σ' : qS} (h : PlanOK P σ) (q : qsm ks σ σ') (hk : ∀ k ∈ ks, k < 11 ∨ 18 < k) : PlanOK P σ' := by
  have e : ∀ a, 11 ≤ a → a ≤ 18 → ∀ b, σ' a b = σ a b := fun a h1 h2 b => q a b (fun h3 => by have := hk a h3; omega)
  obtain ⟨h1, h2, h3, h4, h5, h6, h7, h8⟩ := h
  exact ⟨fun k hk => by rw [e 12 (by omega) (by omega)]; exact h1 k hk, fun x hx u => by rw [e 13 (by omega) (by omega)]; exact h2 x hx u, fun t ht => by rw [e 14 (by omega) (by omega)]; exact h3 t ht, fun t ht => by rw [e 15 (by omega) (by omega)]; exact h4 t ht, fun t ht => by rw [e 16 (by omega) (by omega)]; exact h5 t ht,
    h6.same q (fun h => by have := hk _ h; omega) (fun h => by have := hk _ h; omega), by rw [e 11 (by omega) (by omega)]; exact h7, by rw [e 11 (by omega) (by omega)]; exact h8⟩
end MK
/-! the reference's starts -/
section RS
variable {P : qP}
theorem r_last_loop {k1 j1 : Nat} (W : PW P) {σ : qS} (H : RepR σ 27 0 P) (hk : qlen k1 = 12) : ∀ (d i m : Nat) (a : Int32), i + d = pn P → d < m → l_X8_lastOf_4 k1 j1 m a (nI i) σ = qan (fo (fun t a => qmax a (σ k1 j1 t + pf P 0 t)) d i a) σ := by
  have hn := W.1
  intro d
  induction d with
  | zero =>
    intro i m a hi hm
    obtain ⟨m, rfl⟩ : ∃ m', m = m' + 1 := ⟨m - 1, by omega⟩
    simp only [l_X8_lastOf_4, b_X8_lastOf_4, fo]
    rw [if_pos (by rw [H.1]; exact nI_le (by omega) (by omega))]
  | succ d ih =>
    intro i m a hi hm
    obtain ⟨m, rfl⟩ : ∃ m', m = m' + 1 := ⟨m - 1, by omega⟩
    simp only [l_X8_lastOf_4, b_X8_lastOf_4, fo]
    rw [if_neg (by rw [H.1]; exact nI_ge (by omega) (by omega)), if_pos (by rw [hk]; exact n_in (by omega) (by decide)), r_dur H W (by omega), qb_I, nI_clamp (by omega), nI_1, ih (i + 1) m _ (by omega) (by omega)]
theorem r_lastOf {k1 j1 : Nat} (W : PW P) {σ : qS} (H : RepR σ 27 0 P) (hk : qlen k1 = 12) : f_X8_lastOf k1 j1 σ = qan (plast P (σ k1 j1)) σ := by
  have hn := W.1
  exact r_last_loop W H hk (pn P) 0 qFU _ (by omega) (by unfold qFU; omega)
theorem r_soonest_loop {k2 j2 : Nat} (W : PW P) {σ : qS} (H : RepR σ 27 0 P) (hk : qlen k2 = 12) {t : Nat} (ht : t < pn P) : ∀ (d i m : Nat) (a : Int32), i + d = pn P → d < m →
    l_X8_soonest_10 k2 j2 m (nI t) a (nI i) σ = qan (fo (fun u a => if ped P t u = true then qmax a (σ k2 j2 u + pf P 0 u) else a) d i a) σ := by
  have hn := W.1
  intro d
  induction d with
  | zero =>
    intro i m a hi hm
    obtain ⟨m, rfl⟩ : ∃ m', m = m' + 1 := ⟨m - 1, by omega⟩
    simp only [l_X8_soonest_10, b_X8_soonest_10, fo]
    rw [if_pos (by rw [H.1]; exact nI_le (by omega) (by omega))]
  | succ d ih =>
    intro i m a hi hm
    obtain ⟨m, rfl⟩ : ∃ m', m = m' + 1 := ⟨m - 1, by omega⟩
    simp only [l_X8_soonest_10, b_X8_soonest_10, fo]
    rw [if_neg (by rw [H.1]; exact nI_ge (by omega) (by omega)), r_needed H W ht (by omega), qb_I]
    by_cases e : ped P t i = true
    · rw [e, if_neg (by decide), if_pos (by rw [hk]; exact n_in (by omega) (by decide)), r_dur H W (by omega), qb_I, nI_clamp (by omega), nI_1, ih (i + 1) m _ (by omega) (by omega), if_pos rfl]
    · rw [show ped P t i = false by simpa using e, if_pos (by rfl), nI_1, ih (i + 1) m _ (by omega) (by omega), if_neg (by decide)]
theorem r_soonest {k2 j2 : Nat} (W : PW P) {σ : qS} (H : RepR σ 27 0 P) (hk : qlen k2 = 12) {t : Nat} (ht : t < pn P) : f_X8_soonest (nI t) k2 j2 σ = qan (psoon P (σ k2 j2) t) σ := by
  have hn := W.1
  unfold f_X8_soonest
  rw [r_rel H W ht, qb_I]
  exact r_soonest_loop W H hk ht (pn P) 0 qFU _ (by omega) (by unfold qFU; omega)
/-- one round of the early starts -/
theorem r_early_in (W : PW P) {rk : Int32 → qS → Option qO} {v1 : Int32} {h : Nat → Nat} (hh : ∀ t u, t < pn P → ped P t u = true → h u < h t) {r : Nat} : ∀ (d i m : Nat) (σ : qS), i + d = pn P → d < m → RepR σ 27 0 P → (∀ t, t < pn P → h t < r → σ 31 0 t = pE P t) → (∀ t, t < i → h t < r + 1 → σ 31 0 t = pE P t) →
    ∃ σ', l_X8_starts_39 rk m v1 (nI i) σ = rk (v1 + 1) σ' ∧ qsm [31] σ σ' ∧ ∀ t, t < pn P → h t < r + 1 → σ' 31 0 t = pE P t := by
  have hn := W.1
  intro d
  induction d with
  | zero =>
    intro i m σ hi hm H h1 h2
    obtain ⟨m, rfl⟩ : ∃ m', m = m' + 1 := ⟨m - 1, by omega⟩
    refine ⟨σ, ?_, qsm.refl _ _, fun t ht => h2 t (by omega)⟩
    simp only [l_X8_starts_39, b_X8_starts_39]
    rw [if_pos (by rw [H.1]; exact nI_le (by omega) (by omega))]
  | succ d ih =>
    intro i m σ hi hm H h1 h2
    obtain ⟨m, rfl⟩ : ∃ m', m = m' + 1 := ⟨m - 1, by omega⟩
    have hin : i < pn P := by omega
    simp only [l_X8_starts_39, b_X8_starts_39]
    rw [if_neg (by rw [H.1]; exact nI_ge (by omega) (by omega)), r_soonest W H rfl hin, qb_I, if_pos (n_in (by omega) (by decide)), nI_clamp (by omega), qlet_eq, nI_1]
    have q1 := qsm_qu σ 31 0 i (psoon P (σ 31 0) i)
    have hee : qu σ 31 0 i (psoon P (σ 31 0) i) 31 0 i = psoon P (σ 31 0) i := by rw [qu_at, if_pos ⟨rfl, rfl, rfl⟩]
    have hne : ∀ t, t ≠ i → qu σ 31 0 i (psoon P (σ 31 0) i) 31 0 t = σ 31 0 t := fun t ht => by rw [qu_at, if_neg (fun h => ht h.2.2)]
    have hi1 : h i < r + 1 → psoon P (σ 31 0) i = pE P i := fun hhi => by
      rw [pE_is W i hin]
      exact psoon_congr (fun u hu e => h1 u hu (by have := hh i u hin e; omega))
    obtain ⟨σ2, e2, q2, r2⟩ := ih (i + 1) m (qu σ 31 0 i (psoon P (σ 31 0) i)) (by omega) (by omega) (H.same q1 (by simp)) (fun t ht hr => by
      by_cases hti : t = i
      · subst hti; rw [hee]; exact hi1 (by omega)
      · rw [hne t hti]; exact h1 t ht hr) (fun t ht hr => by
      by_cases hti : t = i
      · subst hti; rw [hee]; exact hi1 hr
      · rw [hne t hti]; exact h2 t (by omega) hr)
    exact ⟨σ2, e2, q1.trans q2, r2⟩
/-- what the latest starts lie between -/
def LBt (P : qP) (f : Nat → Int32) : Prop := ∀ t, t < pn P → (pL P t).toInt ≤ (f t).toInt ∧ (f t).toInt ≤ (plast P (pE P)).toInt - (pf P 0 t).toInt
theorem pL_le (W : PW P) {t : Nat} (ht : t < pn P) : (pL P t).toInt ≤ (plast P (pE P)).toInt - (pf P 0 t).toInt ∧ ∀ o, o < pn P → ped P o t = true → (pL P t).toInt ≤ (pL P o).toInt - (pf P 0 t).toInt := by
  have hl := plast_bd W
  have a1 := (W.2.1 t ht).1
  have a4 : (plat P (pL P) t).toInt ≤ (plat P (pL P) t).toInt := Int.le_refl _
  rw [plat_ge] at a4
  have a5 : -1000 ≤ (plat P (pL P) t).toInt := by
    rw [plat_ge]
    exact ⟨by omega, fun o ho e => by have := pL_bd W ho; omega⟩
  rw [pL_is W t ht, i_sub (by omega) (by omega) (by omega) (by omega)]
  exact ⟨by omega, fun o ho e => by have := a4.2 o ho e; omega⟩
theorem pL_ge (W : PW P) {t : Nat} (ht : t < pn P) {x : Int} (h1 : x ≤ (plast P (pE P)).toInt - (pf P 0 t).toInt) (h2 : ∀ o, o < pn P → ped P o t = true → x ≤ (pL P o).toInt - (pf P 0 t).toInt) : x ≤ (pL P t).toInt := by
  have hl := plast_bd W
  have a1 := (W.2.1 t ht).1
  have a4 : (plat P (pL P) t).toInt ≤ (plat P (pL P) t).toInt := Int.le_refl _
  rw [plat_ge] at a4
  have a5 : -1000 ≤ (plat P (pL P) t).toInt := by
    rw [plat_ge]
    exact ⟨by omega, fun o ho e => by have := pL_bd W ho; omega⟩
  have a6 : x + (pf P 0 t).toInt ≤ (plat P (pL P) t).toInt := by
    rw [plat_ge]
    exact ⟨by omega, fun o ho e => by have := h2 o ho e; omega⟩
  rw [pL_is W t ht, i_sub (by omega) (by omega) (by omega) (by omega)]
  omega
theorem r_puts_loop (W : PW P) {t : Nat} (ht : t < pn P) : ∀ (d i m : Nat) (σ : qS), i + d = pn P → d < m → RepR σ 27 0 P → LBt P (σ 32 0) → (∀ o, o < i → ped P o t = true → σ 32 0 o = pL P o → (σ 32 0 t).toInt ≤ (pL P o).toInt - (pf P 0 t).toInt) →
    ∃ σ', l_X8_puts_2 m (nI t) (nI i) σ = qdo σ' ∧ qsm [32] σ σ' ∧ LBt P (σ' 32 0) ∧ (∀ u, ¬ u = t → σ' 32 0 u = σ 32 0 u) ∧ (∀ o, o < pn P → ped P o t = true → σ 32 0 o = pL P o → (σ' 32 0 t).toInt ≤ (pL P o).toInt - (pf P 0 t).toInt) ∧ (σ' 32 0 t).toInt ≤ (σ 32 0 t).toInt := by
  have hn := W.1
  have hl := plast_bd W
  have a1 := (W.2.1 t ht).1
  intro d
  induction d with
  | zero =>
    intro i m σ hi hm H hB h2
    obtain ⟨m, rfl⟩ : ∃ m', m = m' + 1 := ⟨m - 1, by omega⟩
    refine ⟨σ, ?_, qsm.refl _ _, hB, fun _ _ => rfl, fun o ho => h2 o (by omega), Int.le_refl _⟩
    simp only [l_X8_puts_2, b_X8_puts_2]
    rw [if_pos (by rw [H.1]; exact nI_le (by omega) (by omega))]
  | succ d ih =>
    intro i m σ hi hm H hB h2
    obtain ⟨m, rfl⟩ : ∃ m', m = m' + 1 := ⟨m - 1, by omega⟩
    have hin : i < pn P := by omega
    have t12 : qin (nI t) 12 := n_in (by omega) (by decide)
    have i12 : qin (nI i) 12 := n_in (by omega) (by decide)
    simp only [l_X8_puts_2, b_X8_puts_2]
    rw [if_neg (by rw [H.1]; exact nI_ge (by omega) (by omega)), r_needed H W hin (by omega), qb_I]
    by_cases e : ped P i t = true
    · have hit : i ≠ t := by
        intro hh
        subst hh
        obtain ⟨h, hr⟩ := W.2.2.2.1
        have := hr i i hin e
        omega
      rw [e, if_neg (by decide), if_pos t12, if_pos i12, r_dur H W ht, qb_I, if_pos t12, nI_clamp (by omega), nI_clamp (by omega), qlet_eq, nI_1]
      have q1 := qsm_qu σ 32 0 t (qmin (σ 32 0 t) (σ 32 0 i - pf P 0 t))
      have hee : qu σ 32 0 t (qmin (σ 32 0 t) (σ 32 0 i - pf P 0 t)) 32 0 t = qmin (σ 32 0 t) (σ 32 0 i - pf P 0 t) := by rw [qu_at, if_pos ⟨rfl, rfl, rfl⟩]
      have hne : ∀ u, u ≠ t → qu σ 32 0 t (qmin (σ 32 0 t) (σ 32 0 i - pf P 0 t)) 32 0 u = σ 32 0 u := fun u hu => by rw [qu_at, if_neg (fun h => hu h.2.2)]
      have b1 := hB i hin
      have b2 := pL_bd W hin
      have b3 := (W.2.1 i hin).1
      have b4 := hB t ht
      have b5 := (pL_le W ht).2 i hin e
      have hmin : (qmin (σ 32 0 t) (σ 32 0 i - pf P 0 t)).toInt = min (σ 32 0 t).toInt ((σ 32 0 i).toInt - (pf P 0 t).toInt) := by
        rw [i_min, i_sub (by omega) (by omega) (by omega) (by omega)]
      obtain ⟨σ2, e2, q2, b6, r1, r2, r3⟩ := ih (i + 1) m (qu σ 32 0 t (qmin (σ 32 0 t) (σ 32 0 i - pf P 0 t))) (by omega) (by omega) (H.same q1 (by simp)) (fun u hu => by
        by_cases hut : u = t
        · subst hut; rw [hee, hmin]; omega
        · rw [hne u hut]; exact hB u hu) (fun o ho eo h3 => by
        have hot : o ≠ t := by
          intro hh
          subst hh
          obtain ⟨h, hr⟩ := W.2.2.2.1
          have := hr o o ht eo
          omega
        rw [hne o hot] at h3
        rw [hee, hmin]
        by_cases hoi : o = i
        · subst hoi; rw [h3]; omega
        · have := h2 o (by omega) eo h3; omega)
      refine ⟨σ2, e2, q1.trans q2, b6, fun u hu => by rw [r1 u hu, hne u hu], fun o ho eo h3 => r2 o ho eo ?_, ?_⟩
      · have hot : o ≠ t := by
          intro hh
          subst hh
          obtain ⟨h, hr⟩ := W.2.2.2.1
          have := hr o o ht eo
          omega
        rw [hne o hot]; exact h3
      · rw [hee, hmin] at r3; omega
    · rw [show ped P i t = false by simpa using e, if_pos (by rfl), if_pos t12, if_pos t12, nI_clamp (by omega), qlet_eq, nI_1]
      have hid : qu σ 32 0 t (σ 32 0 t) = σ := by
        funext a b x
        rw [qu_at]
        by_cases h : a = 32 ∧ b = 0 ∧ x = t
        · obtain ⟨rfl, rfl, rfl⟩ := h
          rw [if_pos ⟨rfl, rfl, rfl⟩]
        · rw [if_neg h]
      rw [hid]
      exact ih (i + 1) m σ (by omega) (by omega) H hB (fun o ho eo h3 => by
        by_cases hoi : o = i
        · subst hoi; exact absurd eo e
        · exact h2 o (by omega) eo h3)
end RS
