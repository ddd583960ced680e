/-! ranks: the reference -/
section QK3
variable {P : qP} {hs : List qP} {sv : qP} {σ : qS}
abbrev sA (P : qP) (t : Nat) : Int := (pL P t).toInt - (pE P t).toInt
abbrev sB (P : qP) (t : Nat) : Int := (pf P 0 t).toInt
abbrev vA (P : qP) (t : Nat) : Int := (pV P t : Int)
abbrev vB (P : qP) (t : Nat) : Int := (pf P 2 t).toInt

theorem r_taskBySlack_in (W : PW P) (H : RepR σ 27 0 P) (h31 : ∀ t, t < pn P → σ 31 0 t = pE P t) (h32 : ∀ t, t < pn P → σ 32 0 t = pL P t) {rk : Int32 → Int32 → Int32 → qS → Option qO} {x v2 : Int32} {t : Nat} (ht : t < pn P) : ∀ (d i m : Nat), i + d = pn P → d < m →
    l_X8_taskBySlack_24 rk m x v2 (nI t) (nI (gcnt (fun w => rb (sA P) (sB P) w t) i)) (nI i) σ = if rkq P (sA P) (sB P) x t = true then rk x (nI t) (nI (t + 1)) σ else rk x v2 (nI (t + 1)) σ := by
  have hn := W.1
  intro d
  induction d with
  | zero =>
    intro i m hi hm
    obtain ⟨m, rfl⟩ : ∃ m', m = m' + 1 := ⟨m - 1, by omega⟩
    have hi : i = pn P := by omega
    subst hi
    simp only [l_X8_taskBySlack_24, b_X8_taskBySlack_24]
    rw [if_pos (by rw [H.1]; exact Int32.le_refl _), nI_1]
    by_cases e : nI (rkc (sA P) (sB P) (pn P) t) = x
    · rw [if_pos (show nI (gcnt (fun w => rb (sA P) (sB P) w t) (pn P)) = x from e), if_pos (show rkq P (sA P) (sB P) x t = true from decide_eq_true e)]
    · rw [if_neg (show ¬ nI (gcnt (fun w => rb (sA P) (sB P) w t) (pn P)) = x from e), if_neg (show ¬ rkq P (sA P) (sB P) x t = true by rw [show rkq P (sA P) (sB P) x t = false from decide_eq_false e]; decide)]
  | succ d ih =>
    intro i m hi hm
    obtain ⟨m, rfl⟩ : ∃ m', m = m' + 1 := ⟨m - 1, by omega⟩
    have hi2 : i < pn P := by omega
    have hq : qin (nI i) 12 := n_in (by omega) (by decide)
    have hq2 : qin (nI t) 12 := n_in (by omega) (by decide)
    have hg : gcnt (fun w => rb (sA P) (sB P) w t) (i + 1) = gcnt (fun w => rb (sA P) (sB P) w t) i + (if rb (sA P) (sB P) i t = true then 1 else 0) := rfl
    have ih2 := ih (i + 1) m (by omega) (by omega)
    have l1 := pL_bd W ht
    have l2 := pE_small W ht
    have l3 := pL_bd W hi2
    have l4 := pE_small W hi2
    have l5 := (W.2.1 i hi2).1
    have l6 := (W.2.1 t ht).1
    have e1 : (pL P t - pE P t).toInt = (pL P t).toInt - (pE P t).toInt := i_sub (by omega) (by omega) (by omega) (by omega)
    have e2 : (pL P t - pE P t - pL P i).toInt = (pL P t - pE P t).toInt - (pL P i).toInt := i_sub (by omega) (by omega) (by omega) (by omega)
    have e3 : (pL P t - pE P t - pL P i + pE P i).toInt = (pL P t - pE P t - pL P i).toInt + (pE P i).toInt := i_add (by omega) (by omega) (by omega) (by omega)
    have z1 : sB P i = (pf P 0 i).toInt := rfl
    have z2 : sB P t = (pf P 0 t).toInt := rfl
    have z3 : sA P i = (pL P i).toInt - (pE P i).toInt := rfl
    have z4 : sA P t = (pL P t).toInt - (pE P t).toInt := rfl
    obtain ⟨X, hXX⟩ : ∃ X, X = pL P t - pE P t - pL P i + pE P i := ⟨_, rfl⟩
    obtain ⟨XI, hXI⟩ : ∃ XI, XI = sA P t - sA P i := ⟨_, rfl⟩
    have hX : X.toInt = XI := by rw [hXX, hXI, e3, e2, e1]; omega
    have f3 : (pf P 0 i - pf P 0 t).toInt = (pf P 0 i).toInt - (pf P 0 t).toInt := i_sub (by omega) (by omega) (by omega) (by omega)
    have yes : rb (sA P) (sB P) i t = true → l_X8_taskBySlack_24 rk m x v2 (nI t) (nI (gcnt (fun w => rb (sA P) (sB P) w t) i + 1)) (nI (i + 1)) σ = if rkq P (sA P) (sB P) x t = true then rk x (nI t) (nI (t + 1)) σ else rk x v2 (nI (t + 1)) σ := fun h => by
      rw [hg, if_pos h] at ih2
      exact ih2
    have no : rb (sA P) (sB P) i t = false → l_X8_taskBySlack_24 rk m x v2 (nI t) (nI (gcnt (fun w => rb (sA P) (sB P) w t) i)) (nI (i + 1)) σ = if rkq P (sA P) (sB P) x t = true then rk x (nI t) (nI (t + 1)) σ else rk x v2 (nI (t + 1)) σ := fun h => by
      rw [hg, h, if_neg (show ¬ false = true by decide), Nat.add_zero] at ih2
      exact ih2
    simp only [l_X8_taskBySlack_24, b_X8_taskBySlack_24]
    rw [if_neg (by rw [H.1]; exact nI_ge (by omega) (by omega)), if_pos hq2, if_pos hq2, if_pos hq, if_pos hq, r_dur H W hi2, qb_I, r_dur H W ht, qb_I, nI_clamp (by omega), nI_clamp (by omega), h31 t ht, h32 t ht, h31 i hi2, h32 i hi2, ← hXX, nI_1, nI_1, Int32.add_zero]
    by_cases c1 : (0 : Int32) < X
    · rw [if_pos c1]
      rw [i_lt, hX, show (0 : Int32).toInt = 0 from rfl] at c1
      exact yes (by unfold rb; rw [decide_eq_true_iff]; omega)
    · rw [if_neg c1]
      rw [i_lt, hX, show (0 : Int32).toInt = 0 from rfl] at c1
      by_cases c2 : X = 0
      · rw [if_pos c2]
        have c2 := congrArg Int32.toInt c2
        rw [hX, show (0 : Int32).toInt = 0 from rfl] at c2
        by_cases c3 : (0 : Int32) < pf P 0 i - pf P 0 t
        · rw [if_pos c3]
          rw [i_lt, f3, show (0 : Int32).toInt = 0 from rfl] at c3
          exact yes (by unfold rb; rw [decide_eq_true_iff]; omega)
        · rw [if_neg c3]
          rw [i_lt, f3, show (0 : Int32).toInt = 0 from rfl] at c3
          by_cases c4 : pf P 0 i - pf P 0 t = 0
          · rw [if_pos c4]
            have c4 := congrArg Int32.toInt c4
            rw [f3, show (0 : Int32).toInt = 0 from rfl] at c4
            by_cases c5 : nI t ≤ nI i
            · rw [if_pos c5]
              rw [n_le (by omega) (by omega)] at c5
              exact no (by unfold rb; rw [decide_eq_false_iff_not]; omega)
            · rw [if_neg c5]
              rw [n_le (by omega) (by omega)] at c5
              exact yes (by unfold rb; rw [decide_eq_true_iff]; omega)
          · rw [if_neg c4]
            have c4 : ¬ (pf P 0 i).toInt - (pf P 0 t).toInt = 0 := fun e => c4 (i_eq (by rw [f3, e]; rfl))
            exact no (by unfold rb; rw [decide_eq_false_iff_not]; omega)
      · rw [if_neg c2]
        have c2 : ¬ XI = 0 := fun e => c2 (i_eq (by rw [hX, e]; rfl))
        exact no (by unfold rb; rw [decide_eq_false_iff_not]; omega)
theorem r_taskBySlack_out (W : PW P) (H : RepR σ 27 0 P) (h31 : ∀ t, t < pn P → σ 31 0 t = pE P t) (h32 : ∀ t, t < pn P → σ 32 0 t = pL P t) (x : Int32) : ∀ (d i m : Nat), i + d = pn P → d < m →
    l_X8_taskBySlack_8 m x (qno P (gla (rkq P (sA P) (sB P) x) (pn P) i)) (nI i) σ = qan (if gla (rkq P (sA P) (sB P) x) (pn P) (pn P) = pn P then 0 else nI (gla (rkq P (sA P) (sB P) x) (pn P) (pn P))) (qu σ 26 0 17 (if gla (rkq P (sA P) (sB P) x) (pn P) (pn P) = pn P then 1 else 0)) := by
  have hn := W.1
  intro d
  induction d with
  | zero =>
    intro i m hi hm
    obtain ⟨m, rfl⟩ : ∃ m', m = m' + 1 := ⟨m - 1, by omega⟩
    have hi : i = pn P := by omega
    subst hi
    simp only [l_X8_taskBySlack_8, b_X8_taskBySlack_8]
    rw [if_pos (by rw [H.1]; exact Int32.le_refl _)]
    by_cases e : gla (rkq P (sA P) (sB P) x) (pn P) (pn P) = pn P
    · rw [e, qno_m, if_pos rfl, if_pos rfl, if_pos rfl]
      show qbind (f_X8_goes (qb1 false) σ) _ _ = _
      rw [r_goes, qb_I, if_pos (by decide)]
      rfl
    · have hl : gla (rkq P (sA P) (sB P) x) (pn P) (pn P) < pn P := by
        rcases gla_spec (rkq P (sA P) (sB P) x) (pn P) (pn P) with ⟨h1, h2⟩ | ⟨h1, h2⟩
        · exact absurd h1 e
        · exact h1
      rw [if_neg e, if_neg e, qno_n e, if_neg (n_ne _ (by omega))]
      show qbind (f_X8_goes (qb1 true) σ) _ _ = _
      rw [r_goes, qb_I, if_neg (by decide)]
      rfl
  | succ d ih =>
    intro i m hi hm
    obtain ⟨m, rfl⟩ : ∃ m', m = m' + 1 := ⟨m - 1, by omega⟩
    have hg : gla (rkq P (sA P) (sB P) x) (pn P) (i + 1) = if rkq P (sA P) (sB P) x i = true then i else gla (rkq P (sA P) (sB P) x) (pn P) i := rfl
    have ih2 := ih (i + 1) m (by omega) (by omega)
    have k1 := r_taskBySlack_in W H h31 h32 (rk := l_X8_taskBySlack_8 m) (x := x) (v2 := qno P (gla (rkq P (sA P) (sB P) x) (pn P) i)) (show i < pn P by omega) (pn P) 0 qFU (by omega) (by unfold qFU; omega)
    rw [show nI (gcnt (fun w => rb (sA P) (sB P) w i) 0) = (0 : Int32) from rfl, show nI 0 = (0 : Int32) from rfl] at k1
    simp only [l_X8_taskBySlack_8, b_X8_taskBySlack_8]
    rw [if_neg (by rw [H.1]; exact nI_ge (by omega) (by omega)), k1]
    by_cases e : rkq P (sA P) (sB P) x i = true
    · rw [if_pos e]
      rw [hg, if_pos e, qno_n (show i ≠ pn P by omega)] at ih2
      exact ih2
    · rw [if_neg e]
      rw [hg, if_neg e] at ih2
      exact ih2

theorem r_taskByStart_in (W : PW P) (H : RepR σ 27 0 P) (h33 : ∀ t, t < pn P → σ 33 0 t = nI (pV P t)) {rk : Int32 → Int32 → Int32 → qS → Option qO} {x v2 : Int32} {t : Nat} (ht : t < pn P) : ∀ (d i m : Nat), i + d = pn P → d < m →
    l_X8_taskByStart_24 rk m x v2 (nI t) (nI (gcnt (fun w => rb (vA P) (vB P) w t) i)) (nI i) σ = if rkq P (vA P) (vB P) x t = true then rk x (nI t) (nI (t + 1)) σ else rk x v2 (nI (t + 1)) σ := by
  have hn := W.1
  intro d
  induction d with
  | zero =>
    intro i m hi hm
    obtain ⟨m, rfl⟩ : ∃ m', m = m' + 1 := ⟨m - 1, by omega⟩
    have hi : i = pn P := by omega
    subst hi
    simp only [l_X8_taskByStart_24, b_X8_taskByStart_24]
    rw [if_pos (by rw [H.1]; exact Int32.le_refl _), nI_1]
    by_cases e : nI (rkc (vA P) (vB P) (pn P) t) = x
    · rw [if_pos (show nI (gcnt (fun w => rb (vA P) (vB P) w t) (pn P)) = x from e), if_pos (show rkq P (vA P) (vB P) x t = true from decide_eq_true e)]
    · rw [if_neg (show ¬ nI (gcnt (fun w => rb (vA P) (vB P) w t) (pn P)) = x from e), if_neg (show ¬ rkq P (vA P) (vB P) x t = true by rw [show rkq P (vA P) (vB P) x t = false from decide_eq_false e]; decide)]
  | succ d ih =>
    intro i m hi hm
    obtain ⟨m, rfl⟩ : ∃ m', m = m' + 1 := ⟨m - 1, by omega⟩
    have hi2 : i < pn P := by omega
    have hq : qin (nI i) 12 := n_in (by omega) (by decide)
    have hq2 : qin (nI t) 12 := n_in (by omega) (by decide)
    have hg : gcnt (fun w => rb (vA P) (vB P) w t) (i + 1) = gcnt (fun w => rb (vA P) (vB P) w t) i + (if rb (vA P) (vB P) i t = true then 1 else 0) := rfl
    have ih2 := ih (i + 1) m (by omega) (by omega)
    have l1 := pV_le W ht
    have l2 := pV_le W hi2
    have l5 := (W.2.1 i hi2).2.2.1
    have l6 := (W.2.1 t ht).2.2.1
    have g1 : (nI (pV P t)).toInt = (pV P t : Int) := nI_toInt (by omega)
    have g2 : (nI (pV P i)).toInt = (pV P i : Int) := nI_toInt (by omega)
    have e1 : (nI (pV P t) - nI (pV P i)).toInt = (nI (pV P t)).toInt - (nI (pV P i)).toInt := i_sub (by omega) (by omega) (by omega) (by omega)
    have z1 : vB P i = (pf P 2 i).toInt := rfl
    have z2 : vB P t = (pf P 2 t).toInt := rfl
    obtain ⟨X, hXX⟩ : ∃ X, X = nI (pV P t) - nI (pV P i) := ⟨_, rfl⟩
    obtain ⟨XI, hXI⟩ : ∃ XI, XI = vA P t - vA P i := ⟨_, rfl⟩
    have hX : X.toInt = XI := by rw [hXX, hXI, e1, g1, g2]
    have f3 : (pf P 2 i - pf P 2 t).toInt = (pf P 2 i).toInt - (pf P 2 t).toInt := i_sub (by omega) (by omega) (by omega) (by omega)
    have yes : rb (vA P) (vB P) i t = true → l_X8_taskByStart_24 rk m x v2 (nI t) (nI (gcnt (fun w => rb (vA P) (vB P) w t) i + 1)) (nI (i + 1)) σ = if rkq P (vA P) (vB P) x t = true then rk x (nI t) (nI (t + 1)) σ else rk x v2 (nI (t + 1)) σ := fun h => by
      rw [hg, if_pos h] at ih2
      exact ih2
    have no : rb (vA P) (vB P) i t = false → l_X8_taskByStart_24 rk m x v2 (nI t) (nI (gcnt (fun w => rb (vA P) (vB P) w t) i)) (nI (i + 1)) σ = if rkq P (vA P) (vB P) x t = true then rk x (nI t) (nI (t + 1)) σ else rk x v2 (nI (t + 1)) σ := fun h => by
      rw [hg, h, if_neg (show ¬ false = true by decide), Nat.add_zero] at ih2
      exact ih2
    simp only [l_X8_taskByStart_24, b_X8_taskByStart_24]
    rw [if_neg (by rw [H.1]; exact nI_ge (by omega) (by omega)), if_pos hq2, if_pos hq, r_dem H W hi2, qb_I, r_dem H W ht, qb_I, nI_clamp (by omega), nI_clamp (by omega), h33 t ht, h33 i hi2, ← hXX, nI_1, nI_1, Int32.add_zero]
    by_cases c1 : (0 : Int32) < X
    · rw [if_pos c1]
      rw [i_lt, hX, show (0 : Int32).toInt = 0 from rfl] at c1
      exact yes (by unfold rb; rw [decide_eq_true_iff]; omega)
    · rw [if_neg c1]
      rw [i_lt, hX, show (0 : Int32).toInt = 0 from rfl] at c1
      by_cases c2 : X = 0
      · rw [if_pos c2]
        have c2 := congrArg Int32.toInt c2
        rw [hX, show (0 : Int32).toInt = 0 from rfl] at c2
        by_cases c3 : (0 : Int32) < pf P 2 i - pf P 2 t
        · rw [if_pos c3]
          rw [i_lt, f3, show (0 : Int32).toInt = 0 from rfl] at c3
          exact yes (by unfold rb; rw [decide_eq_true_iff]; omega)
        · rw [if_neg c3]
          rw [i_lt, f3, show (0 : Int32).toInt = 0 from rfl] at c3
          by_cases c4 : pf P 2 i - pf P 2 t = 0
          · rw [if_pos c4]
            have c4 := congrArg Int32.toInt c4
            rw [f3, show (0 : Int32).toInt = 0 from rfl] at c4
            by_cases c5 : nI t ≤ nI i
            · rw [if_pos c5]
              rw [n_le (by omega) (by omega)] at c5
              exact no (by unfold rb; rw [decide_eq_false_iff_not]; omega)
            · rw [if_neg c5]
              rw [n_le (by omega) (by omega)] at c5
              exact yes (by unfold rb; rw [decide_eq_true_iff]; omega)
          · rw [if_neg c4]
            have c4 : ¬ (pf P 2 i).toInt - (pf P 2 t).toInt = 0 := fun e => c4 (i_eq (by rw [f3, e]; rfl))
            exact no (by unfold rb; rw [decide_eq_false_iff_not]; omega)
      · rw [if_neg c2]
        have c2 : ¬ XI = 0 := fun e => c2 (i_eq (by rw [hX, e]; rfl))
        exact no (by unfold rb; rw [decide_eq_false_iff_not]; omega)
theorem r_taskByStart_out (W : PW P) (H : RepR σ 27 0 P) (h33 : ∀ t, t < pn P → σ 33 0 t = nI (pV P t)) (x : Int32) : ∀ (d i m : Nat), i + d = pn P → d < m →
    l_X8_taskByStart_8 m x (qno P (gla (rkq P (vA P) (vB P) x) (pn P) i)) (nI i) σ = qan (if gla (rkq P (vA P) (vB P) x) (pn P) (pn P) = pn P then 0 else nI (gla (rkq P (vA P) (vB P) x) (pn P) (pn P))) (qu σ 26 0 17 (if gla (rkq P (vA P) (vB P) x) (pn P) (pn P) = pn P then 1 else 0)) := by
  have hn := W.1
  intro d
  induction d with
  | zero =>
    intro i m hi hm
    obtain ⟨m, rfl⟩ : ∃ m', m = m' + 1 := ⟨m - 1, by omega⟩
    have hi : i = pn P := by omega
    subst hi
    simp only [l_X8_taskByStart_8, b_X8_taskByStart_8]
    rw [if_pos (by rw [H.1]; exact Int32.le_refl _)]
    by_cases e : gla (rkq P (vA P) (vB P) x) (pn P) (pn P) = pn P
    · rw [e, qno_m, if_pos rfl, if_pos rfl, if_pos rfl]
      show qbind (f_X8_goes (qb1 false) σ) _ _ = _
      rw [r_goes, qb_I, if_pos (by decide)]
      rfl
    · have hl : gla (rkq P (vA P) (vB P) x) (pn P) (pn P) < pn P := by
        rcases gla_spec (rkq P (vA P) (vB P) x) (pn P) (pn P) with ⟨h1, h2⟩ | ⟨h1, h2⟩
        · exact absurd h1 e
        · exact h1
      rw [if_neg e, if_neg e, qno_n e, if_neg (n_ne _ (by omega))]
      show qbind (f_X8_goes (qb1 true) σ) _ _ = _
      rw [r_goes, qb_I, if_neg (by decide)]
      rfl
  | succ d ih =>
    intro i m hi hm
    obtain ⟨m, rfl⟩ : ∃ m', m = m' + 1 := ⟨m - 1, by omega⟩
    have hg : gla (rkq P (vA P) (vB P) x) (pn P) (i + 1) = if rkq P (vA P) (vB P) x i = true then i else gla (rkq P (vA P) (vB P) x) (pn P) i := rfl
    have ih2 := ih (i + 1) m (by omega) (by omega)
    have k1 := r_taskByStart_in W H h33 (rk := l_X8_taskByStart_8 m) (x := x) (v2 := qno P (gla (rkq P (vA P) (vB P) x) (pn P) i)) (show i < pn P by omega) (pn P) 0 qFU (by omega) (by unfold qFU; omega)
    rw [show nI (gcnt (fun w => rb (vA P) (vB P) w i) 0) = (0 : Int32) from rfl, show nI 0 = (0 : Int32) from rfl] at k1
    simp only [l_X8_taskByStart_8, b_X8_taskByStart_8]
    rw [if_neg (by rw [H.1]; exact nI_ge (by omega) (by omega)), k1]
    by_cases e : rkq P (vA P) (vB P) x i = true
    · rw [if_pos e]
      rw [hg, if_pos e, qno_n (show i ≠ pn P by omega)] at ih2
      exact ih2
    · rw [if_neg e]
      rw [hg, if_neg e] at ih2
      exact ih2

theorem k_taskBySlack (a : Int32) (h : Inv σ) : CaseL (f_L_taskBySlack a) (f_X8_taskBySlack a) σ := by
  obtain ⟨P, hs, sv, I, S⟩ := h
  have W := I.1
  have hn := W.1
  obtain ⟨σ1, c1, q1, I1, s8, p1⟩ := c_plan I S
  obtain ⟨σ3, q3, c3, K3, H3, p3⟩ := c_bySlack_loop W a (pn P) 0 qFU σ1 (by omega) (by unfold qFU; omega) I1.2.1 p1 (fun t ht => by omega)
  have Q3 : Qt σ1 σ3 := Qt.of q3 (by simp)
  have I3 := I1.qt Q3
  have S3 : PlanSt P σ3 := Or.inr ⟨by rw [q3 0 0 (by simp)]; exact s8, p3⟩
  have cr := c_rank W H3 K3 (fun t ht => by have := (W.2.1 t ht).1; show 0 ≤ (pf P 0 t).toInt ∧ (pf P 0 t).toInt ≤ 9; omega) a
  have hc : f_X7_taskBySlack a σ = qbind (f_X7_taskAtRank a σ3) (qvI (fun r1 s2 => (some (.inl (some (qI r1)), s2)))) qE1 := by
    unfold f_X7_taskBySlack
    rw [c1, qb_P]
    exact c3
  have hgg := gla_gfs (rkq_inj (A := sA P) (B := sB P) W (x := a))
  have ref : ∀ σ4 : qS, RepR σ4 27 0 P → ∃ σ2, Qr σ4 σ2 ∧ σ2 26 0 17 = (if gfs (rkq P (sA P) (sB P) a) (pn P) 0 = pn P then 1 else 0) ∧ f_X8_taskBySlack a σ4 = qan (if gfs (rkq P (sA P) (sB P) a) (pn P) 0 = pn P then 0 else nI (gfs (rkq P (sA P) (sB P) a) (pn P) 0)) σ2 := by
    intro σ4 R1
    obtain ⟨σ2, e2, q2, a2, b2⟩ := r_starts W R1
    have R2 := R1.same q2 (by simp)
    refine ⟨_, (Qr.of q2 (by simp)).trans (Qr.thr _ _), thr_at _ _, ?_⟩
    unfold f_X8_taskBySlack
    rw [e2, qb_V, ← hgg]
    have := r_taskBySlack_out W R2 a2 b2 a (pn P) 0 qFU (by omega) (by unfold qFU; omega)
    rw [show gla (rkq P (sA P) (sB P) a) (pn P) 0 = pn P from rfl, qno_m] at this
    exact this
  by_cases e : gfs (rkq P (sA P) (sB P) a) (pn P) 0 = pn P
  · obtain ⟨σ2, r1, r2, r3⟩ := ref σ3 I3.2.2.1
    rw [if_pos e] at r2 r3 cr
    exact casek (k := 1) (b := 0) (by decide) (by decide) (by unfold f_L_taskBySlack; rw [hc, cr]; rfl) I3 S3 r3 r2 r1
  · rw [if_neg e] at cr
    obtain ⟨σ2, r1, r2, r3⟩ := ref _ (I3.out (nI (gfs (rkq P (sA P) (sB P) a) (pn P) 0))).2.2.1
    rw [if_neg e] at r2 r3
    exact case0 (by unfold f_L_taskBySlack; rw [hc, cr]; rfl) I3 S3 r3 r2 r1

theorem k_taskByStart (a : Int32) (h : Inv σ) : CaseL (f_L_taskByStart a) (f_X8_taskByStart a) σ := by
  obtain ⟨P, hs, sv, I, S⟩ := h
  have W := I.1
  have hn := W.1
  obtain ⟨σ1, c1, q1, I1, s8, p1⟩ := c_plan I S
  obtain ⟨σ3, q3, c3, K3, H3, p3⟩ := c_byStart_loop W a (pn P) 0 qFU σ1 (by omega) (by unfold qFU; omega) I1.2.1 p1 (fun t ht => by omega)
  have Q3 : Qt σ1 σ3 := Qt.of q3 (by simp)
  have I3 := I1.qt Q3
  have S3 : PlanSt P σ3 := Or.inr ⟨by rw [q3 0 0 (by simp)]; exact s8, p3⟩
  have cr := c_rank W H3 K3 (fun t ht => by have := (W.2.1 t ht).2.2.1; show 0 ≤ (pf P 2 t).toInt ∧ (pf P 2 t).toInt ≤ 9; omega) a
  have hc : f_X7_taskByStart a σ = qbind (f_X7_taskAtRank a σ3) (qvI (fun r1 s2 => (some (.inl (some (qI r1)), s2)))) qE1 := by
    unfold f_X7_taskByStart
    rw [c1, qb_P]
    exact c3
  have hgg := gla_gfs (rkq_inj (A := vA P) (B := vB P) W (x := a))
  have ref : ∀ σ4 : qS, RepR σ4 27 0 P → ∃ σ2, Qr σ4 σ2 ∧ σ2 26 0 17 = (if gfs (rkq P (vA P) (vB P) a) (pn P) 0 = pn P then 1 else 0) ∧ f_X8_taskByStart a σ4 = qan (if gfs (rkq P (vA P) (vB P) a) (pn P) 0 = pn P then 0 else nI (gfs (rkq P (vA P) (vB P) a) (pn P) 0)) σ2 := by
    intro σ4 R1
    obtain ⟨σ2, e2, q2, a2, b2, l2⟩ := r_levels W R1
    have R2 := R1.same q2 (by simp)
    refine ⟨_, (Qr.of q2 (by simp)).trans (Qr.thr _ _), thr_at _ _, ?_⟩
    unfold f_X8_taskByStart
    rw [e2, qb_V, ← hgg]
    have := r_taskByStart_out W R2 (fun t ht => l2.1 t ht (pst_full W ht)) a (pn P) 0 qFU (by omega) (by unfold qFU; omega)
    rw [show gla (rkq P (vA P) (vB P) a) (pn P) 0 = pn P from rfl, qno_m] at this
    exact this
  by_cases e : gfs (rkq P (vA P) (vB P) a) (pn P) 0 = pn P
  · obtain ⟨σ2, r1, r2, r3⟩ := ref σ3 I3.2.2.1
    rw [if_pos e] at r2 r3 cr
    exact casek (k := 1) (b := 0) (by decide) (by decide) (by unfold f_L_taskByStart; rw [hc, cr]; rfl) I3 S3 r3 r2 r1
  · rw [if_neg e] at cr
    obtain ⟨σ2, r1, r2, r3⟩ := ref _ (I3.out (nI (gfs (rkq P (vA P) (vB P) a) (pn P) 0))).2.2.1
    rw [if_neg e] at r2 r3
    exact case0 (by unfold f_L_taskByStart; rw [hc, cr]; rfl) I3 S3 r3 r2 r1
end QK3
