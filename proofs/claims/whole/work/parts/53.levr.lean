/-! levelling in the reference -/
def LvR (P : qP) (σ : qS) (x : Int32) (lev : Nat → Nat) : Prop := (∀ t, t < pn P → qbit x t = true → σ 33 0 t = nI (lev t)) ∧ ∀ r d, r < 3 → d < 160 → σ 34 0 (160 * r + d) = nI (pU P x lev r d)
section RL
variable {P : qP}
theorem r_fit_loop (W : PW P) {x : Int32} {lev : Nat → Nat} {σ : qS} (H : RepR σ 27 0 P) (HL : LvR P σ x lev) {t s : Nat} (ht : t < pn P) (hs : s + pdn P t ≤ 160) : ∀ (k i m : Nat), i + k = pdn P t → k < m →
    l_X8_hasRoom_16 m (nI t) (nI (160 * prn P t + s)) (nI i) σ = qan (qb1 (pfd P x lev t k (s + i))) σ := by
  have hn := W.1
  have hr := (W.rn ht).2
  have h5 := (W.mn ht).2.2
  have h6 := (W.ln hr).2
  have h7 := (W.dn ht).2
  intro k
  induction k with
  | zero =>
    intro i m hi hm
    obtain ⟨m, rfl⟩ : ∃ m', m = m' + 1 := ⟨m - 1, by omega⟩
    simp only [l_X8_hasRoom_16, b_X8_hasRoom_16, pfd]
    rw [r_dur H W ht, qb_I, (W.dn ht).1, if_pos (nI_le (by omega) (by omega))]
    rfl
  | succ k ih =>
    intro i m hi hm
    obtain ⟨m, rfl⟩ : ∃ m', m = m' + 1 := ⟨m - 1, by omega⟩
    have hu := pU_le W (x := x) (lev := lev) (r := prn P t) (d := s + i)
    simp only [l_X8_hasRoom_16, b_X8_hasRoom_16, pfd]
    have hlim : σ 27 0 (2 + prn P t) = nI (pln P (prn P t)) := by
      have := H.2.2.1 (prn P t) hr
      rw [Nat.zero_add] at this
      rw [this, (W.ln hr).1]
    rw [r_dur H W ht, qb_I, (W.dn ht).1, if_neg (nI_ge (by omega) (by omega)), nI_add, if_pos (n_in (by omega) (by decide)), r_dem H W ht, qb_I, r_res H W ht, qb_I, (W.rn ht).1, show (2 : Int32) = nI 2 from rfl, nI_add, if_pos (n_in (by omega) (by decide)), nI_clamp (by omega), nI_clamp (by omega), hlim, show 160 * prn P t + s + i = 160 * prn P t + (s + i) by omega, HL.2 _ _ hr (by omega), (W.mn ht).1, nI_add]
    by_cases hc : pU P x lev (prn P t) (s + i) + pmn P t ≤ pln P (prn P t)
    · rw [if_pos (nI_le hc (by omega)), decide_eq_true hc, Bool.true_and, nI_1, ih (i + 1) m (by omega) (by omega)]
      rfl
    · rw [if_neg (nI_ge (by omega) (by omega)), decide_eq_false hc]
      rfl
theorem r_fit (W : PW P) {x : Int32} {lev : Nat → Nat} {σ : qS} (H : RepR σ 27 0 P) (HL : LvR P σ x lev) {t s : Nat} (ht : t < pn P) (hs : s + pdn P t ≤ 160) : f_X8_hasRoom (nI t) (nI s) σ = qan (qb1 (pfit P x lev t s)) σ := by
  have h7 := (W.dn ht).2
  unfold f_X8_hasRoom
  rw [r_res H W ht, qb_I, (W.rn ht).1, show (160 : Int32) = nI 160 from rfl, n_mul, nI_add]
  exact r_fit_loop W H HL ht hs (pdn P t) 0 qFU (by omega) (by unfold qFU; omega)
theorem r_add_loop (W : PW P) {rk : Int32 → Int32 → qS → Option qO} {v1 v2 : Int32} {t s : Nat} (ht : t < pn P) (hs : s + pdn P t ≤ 160) : ∀ (k i m : Nat) (σ : qS), i + k = pdn P t → k < m → RepR σ 27 0 P →
    ∃ σ', l_X8_levels_169 rk m v1 v2 (nI t) (nI s) (nI i) σ = rk v1 (v2 + 1) σ' ∧ qsm [34] σ σ' ∧ (∀ y, σ' 34 0 y = if 160 * prn P t + s + i ≤ y ∧ y < 160 * prn P t + s + i + k then σ 34 0 y + nI (pmn P t) else σ 34 0 y) := by
  have hn := W.1
  have hr := (W.rn ht).2
  have h7 := (W.dn ht).2
  intro k
  induction k with
  | zero =>
    intro i m σ hi hm H
    obtain ⟨m, rfl⟩ : ∃ m', m = m' + 1 := ⟨m - 1, by omega⟩
    refine ⟨σ, ?_, qsm.refl _ _, fun y => by rw [if_neg (by omega)]⟩
    simp only [l_X8_levels_169, b_X8_levels_169]
    rw [r_dur H W ht, qb_I, (W.dn ht).1, if_pos (nI_le (by omega) (by omega))]
  | succ k ih =>
    intro i m σ hi hm H
    obtain ⟨m, rfl⟩ : ∃ m', m = m' + 1 := ⟨m - 1, by omega⟩
    have hy : qin (nI (160 * prn P t + s + i)) 480 := n_in (by omega) (by decide)
    simp only [l_X8_levels_169, b_X8_levels_169]
    rw [r_dur H W ht, qb_I, (W.dn ht).1, if_neg (nI_ge (by omega) (by omega)), r_res H W ht, qb_I, (W.rn ht).1, show (160 : Int32) = nI 160 from rfl, n_mul, nI_add, nI_add, if_pos hy, r_dem H W ht, qb_I, if_pos hy, nI_clamp (by omega), qlet_eq, (W.mn ht).1, nI_1]
    have q1 := qsm_qu σ 34 0 (160 * prn P t + s + i) (σ 34 0 (160 * prn P t + s + i) + nI (pmn P t))
    obtain ⟨σ2, e2, q2, r1⟩ := ih (i + 1) m (qu σ 34 0 (160 * prn P t + s + i) (σ 34 0 (160 * prn P t + s + i) + nI (pmn P t))) (by omega) (by omega) (H.same q1 (by simp))
    refine ⟨σ2, e2, q1.trans q2, fun y => ?_⟩
    rw [r1 y, qu_at]
    by_cases e : y = 160 * prn P t + s + i
    · rw [if_neg (by omega), if_pos ⟨rfl, rfl, e⟩, if_pos (by omega), e]
    · rw [if_neg (show ¬ (34 = 34 ∧ 0 = 0 ∧ y = 160 * prn P t + s + i) from fun h => e h.2.2)]
      by_cases h : 160 * prn P t + s + (i + 1) ≤ y ∧ y < 160 * prn P t + s + (i + 1) + k
      · rw [if_pos h, if_pos (by omega)]
      · rw [if_neg h, if_neg (by omega)]
/-- from a day on: the first that fits, and the task is put there -/
theorem r_day_loop (W : PW P) {rk : Int32 → Int32 → qS → Option qO} {x v2 : Int32} {lev : Nat → Nat} {σ : qS} (H : RepR σ 27 0 P) (HL : LvR P σ x lev) {t D : Nat} (ht : t < pn P) (hx : qbit x t = false) (hD : D + pdn P t ≤ 138) (hf : pfit P x lev t D = true) : ∀ (k s m : Nat), s ≤ D → D < s + k → k < m →
    ∃ σ', l_X8_levels_136 rk m x v2 (nI t) (nI s) σ = rk (x ||| ((1 : Int32) <<< (nI t &&& 31))) (v2 + 1) σ' ∧ qsm [33, 34] σ σ' ∧ LvR P σ' (x ||| ((1 : Int32) <<< (nI t &&& 31))) (fun u => if u = t then plow P x lev t k s else lev u) := by
  have hn := W.1
  have h7 := (W.dn ht).2
  have hr := (W.rn ht).2
  intro k
  induction k with
  | zero => intro s m h1 h2; omega
  | succ k ih =>
    intro s m h1 h2 hm
    obtain ⟨m, rfl⟩ : ∃ m', m = m' + 1 := ⟨m - 1, by omega⟩
    simp only [l_X8_levels_136, b_X8_levels_136, plow]
    rw [r_fit W H HL ht (by omega), qb_I]
    by_cases h : pfit P x lev t s = true
    · rw [h, if_neg (by decide), if_pos (n_in (by omega) (by decide)), nI_clamp (by omega), qlet_eq, if_pos rfl]
      have q1 := qsm_qu σ 33 0 t (nI s)
      obtain ⟨σ2, e2, q2, r1⟩ := r_add_loop W (rk := rk) (v1 := x ||| ((1 : Int32) <<< (nI t &&& 31))) (v2 := v2) (s := s) ht (by omega) (pdn P t) 0 qFU (qu σ 33 0 t (nI s)) (by omega) (by unfold qFU; omega) (H.same q1 (by simp))
      refine ⟨σ2, e2, (q1.mono (by simp)).trans (q2.mono (by simp)), fun u hu hb => ?_, fun r d hr' hd => ?_⟩
      · show _ = nI (if u = t then s else lev u)
        rw [q2 33 0 (by simp), qu_at]
        by_cases e : u = t
        · rw [if_pos ⟨rfl, rfl, e⟩, if_pos e]
        · rw [if_neg (fun h => e h.2.2), if_neg e]
          rw [qbit_put (by omega)] at hb
          simp only [Bool.or_eq_true, decide_eq_true_eq] at hb
          exact HL.1 u hu (hb.elim (fun h => h) (fun h => absurd h.symm e))
      · rw [r1, q1 34 0 (by simp), HL.2 r d hr' hd, pU_put ht (by omega) hx]
        by_cases h : prn P t = r ∧ s ≤ d ∧ d < s + pdn P t
        · rw [if_pos h, if_pos (by obtain ⟨h1, h2, h3⟩ := h; subst h1; omega), nI_add]
        · have hno : ¬ (160 * prn P t + s ≤ 160 * r + d ∧ 160 * r + d < 160 * prn P t + s + pdn P t) := by
            intro h9
            apply h
            rcases Nat.lt_trichotomy (prn P t) r with h3 | h3 | h3
            · have : 160 * (prn P t + 1) ≤ 160 * r := Nat.mul_le_mul_left _ h3
              omega
            · subst h3; omega
            · have : 160 * (r + 1) ≤ 160 * prn P t := Nat.mul_le_mul_left _ h3
              omega
          simp only [Nat.add_zero]
          rw [if_neg hno, if_neg h, Nat.add_zero]
    · have hsD : s ≠ D := fun e => h (e ▸ hf)
      rw [show pfit P x lev t s = false by simpa using h, if_pos (by rfl), if_neg (by decide), nI_1]
      exact ih (s + 1) m (by omega) (by omega) (by omega)
theorem r_pick_loop (W : PW P) {rk : Int32 → Int32 → qS → Option qO} {x v2 : Int32} {σ : qS} (H : RepR σ 27 0 P) (h32 : ∀ t, t < pn P → σ 32 0 t = pL P t) : ∀ (d i m a : Nat), i + d = pn P → d < m → a ≤ pn P →
    l_X8_levels_45 rk m x v2 (qno P a) (nI i) σ = qbind (f_X8_soonest (qno P (pug P x d i a)) 33 0 σ) (qvI (fun r1 s2 => l_X8_levels_136 rk qFU x v2 (qno P (pug P x d i a)) r1 s2)) qE0 := by
  have hn := W.1
  intro d
  induction d with
  | zero =>
    intro i m a hi hm ha
    obtain ⟨m, rfl⟩ : ∃ m', m = m' + 1 := ⟨m - 1, by omega⟩
    simp only [l_X8_levels_45, b_X8_levels_45, pug]
    rw [if_pos (by rw [H.1]; exact nI_le (by omega) (by omega))]
  | succ d ih =>
    intro i m a hi hm ha
    obtain ⟨m, rfl⟩ : ∃ m', m = m' + 1 := ⟨m - 1, by omega⟩
    have hin : i < pn P := by omega
    have hii : nI i = qno P i := (qno_n (by omega)).symm
    have no : pready P x i = false → l_X8_levels_45 rk m x v2 (qno P a) (nI i + 1) σ = qbind (f_X8_soonest (qno P (pug P x (d + 1) i a)) 33 0 σ) (qvI (fun r1 s2 => l_X8_levels_136 rk qFU x v2 (qno P (pug P x (d + 1) i a)) r1 s2)) qE0 := by
      intro hr
      rw [nI_1, ih (i + 1) m a (by omega) (by omega) ha, pug, hr, if_neg (by decide)]
    simp only [l_X8_levels_45, b_X8_levels_45]
    rw [if_neg (by rw [H.1]; exact nI_ge (by omega) (by omega))]
    by_cases hb : qbit x i = true
    · have hr : pready P x i = false := by unfold pready; rw [hb]; rfl
      rw [if_neg (fun h => by rw [(qbit_has0 (by omega)).mp h] at hb; cases hb)]
      unfold j_X8_levels_84
      rw [if_pos rfl]
      exact no hr
    · have hb : qbit x i = false := by simpa using hb
      rw [if_pos ((qbit_has0 (by omega)).mpr hb), r_need H W hin, qb_I]
      by_cases hz : pf P 4 i &&& (x ^^^ (-1 : Int32)) = 0
      · have hr : pready P x i = true := by unfold pready; rw [hb, decide_eq_true hz]; rfl
        rw [if_pos hz]
        unfold j_X8_levels_84
        rw [if_neg (by decide), pug, if_pos hr]
        by_cases ha0 : a = pn P
        · subst ha0
          rw [if_pos (qno_m P), if_pos rfl, nI_1, hii, ih (i + 1) m i (by omega) (by omega) (by omega)]
        · rw [qno_n ha0, if_neg (n_ne a (by omega)), if_pos (n_in (by omega) (by decide)), if_pos (n_in (by omega) (by decide)), nI_clamp (by omega), nI_clamp (by omega), h32 a (by omega), h32 i hin, if_neg ha0, nI_1]
          by_cases hl : pL P i < pL P a
          · rw [if_neg (Int32.not_le.mpr hl), if_pos hl, hii, ih (i + 1) m i (by omega) (by omega) (by omega)]
          · rw [if_pos (Int32.not_lt.mp hl), if_neg hl, ← qno_n (P := P) ha0, ih (i + 1) m a (by omega) (by omega) ha]
      · have hr : pready P x i = false := by unfold pready; rw [decide_eq_false hz, Bool.and_false]
        rw [if_neg hz]
        unfold j_X8_levels_84
        rw [if_pos rfl]
        exact no hr
theorem r_lev_loop (W : PW P) : ∀ (d i m : Nat) (σ : qS), i + d = pn P → d < m → RepR σ 27 0 P → (∀ t, t < pn P → σ 32 0 t = pL P t) → LvR P σ (pst P i).1 (pst P i).2 →
    ∃ σ', l_X8_levels_30 m (pst P i).1 (nI i) σ = qdo σ' ∧ qsm [33, 34] σ σ' ∧ LvR P σ' (pst P (pn P)).1 (pst P (pn P)).2 := by
  have hn := W.1
  intro d
  induction d with
  | zero =>
    intro i m σ hi hm H h32 HL
    obtain ⟨m, rfl⟩ : ∃ m', m = m' + 1 := ⟨m - 1, by omega⟩
    have hi : i = pn P := by omega
    subst hi
    refine ⟨σ, ?_, qsm.refl _ _, HL⟩
    simp only [l_X8_levels_30, b_X8_levels_30]
    rw [if_pos (by rw [H.1]; exact Int32.le_refl _)]
  | succ d ih =>
    intro i m σ hi hm H h32 HL
    obtain ⟨m, rfl⟩ : ∃ m', m = m' + 1 := ⟨m - 1, by omega⟩
    obtain ⟨s1, s2, s3, s4, s5, s6⟩ := pst_step W (i := i) (by omega)
    have hps : psoon P (σ 33 0) (pur P (pst P i).1) = nI (ps0 P (pst P i).2 (pur P (pst P i).1)) := by
      rw [← s3]
      exact psoon_congr (fun u hu e => HL.1 u hu ((pready_iff.mp s2).2 u (by omega) e))
    obtain ⟨σ1, e1, q1, L1⟩ := r_day_loop W (rk := l_X8_levels_30 m) (v2 := nI i) H HL s1 (pready_iff.mp s2).1 s5 s6 200 _ qFU s4 (by omega) (by unfold qFU; omega)
    simp only [l_X8_levels_30, b_X8_levels_30]
    have hp := r_pick_loop W (rk := l_X8_levels_30 m) (x := (pst P i).1) (v2 := nI i) H h32 (pn P) 0 qFU (pn P) (by omega) (by unfold qFU; omega) (Nat.le_refl _)
    rw [show pug P (pst P i).1 (pn P) 0 (pn P) = pur P (pst P i).1 from rfl, qno_m, qno_n (show pur P (pst P i).1 ≠ pn P by omega)] at hp
    rw [if_neg (by rw [H.1]; exact nI_ge (by omega) (by omega)), show (0 : Int32) = nI 0 from rfl, hp, r_soonest W H rfl s1, qb_I, hps, e1, nI_1]
    obtain ⟨σ2, e2, q2, L2⟩ := ih (i + 1) m σ1 (by omega) (by omega) (H.same q1 (by simp)) (fun t ht => by rw [q1 32 0 (by simp)]; exact h32 t ht) L1
    exact ⟨σ2, e2, q1.trans q2, L2⟩
theorem r_zero_loop : ∀ (d i m : Nat) (σ : qS), i + d = 480 → d < m → (∀ y, y < i → σ 34 0 y = 0) → ∃ σ', l_X8_levels_6 m (nI i) σ = l_X8_levels_30 qFU 0 0 σ' ∧ qsm [34] σ σ' ∧ ∀ y, y < 480 → σ' 34 0 y = 0 := by
  intro d
  induction d with
  | zero =>
    intro i m σ hi hm h
    obtain ⟨m, rfl⟩ : ∃ m', m = m' + 1 := ⟨m - 1, by omega⟩
    refine ⟨σ, ?_, qsm.refl _ _, fun y hy => h y (by omega)⟩
    simp only [l_X8_levels_6, b_X8_levels_6]
    rw [if_pos (by rw [show (480 : Int32) = nI 480 from rfl]; exact nI_le (by omega) (by omega))]
  | succ d ih =>
    intro i m σ hi hm h
    obtain ⟨m, rfl⟩ : ∃ m', m = m' + 1 := ⟨m - 1, by omega⟩
    simp only [l_X8_levels_6, b_X8_levels_6]
    rw [if_neg (by rw [show (480 : Int32) = nI 480 from rfl]; exact nI_ge (by omega) (by omega)), if_pos (n_in (by omega) (by decide)), nI_clamp (by omega), qlet_eq, nI_1]
    obtain ⟨σ2, e2, q2, r2⟩ := ih (i + 1) m (qu σ 34 0 i 0) (by omega) (by omega) (fun y hy => by
      rw [qu_at]
      by_cases e : y = i
      · rw [if_pos ⟨rfl, rfl, e⟩]
      · rw [if_neg (fun h => e h.2.2)]; exact h y (by omega))
    exact ⟨σ2, e2, (qsm_qu σ 34 0 i 0).trans q2, r2⟩
theorem r_levels (W : PW P) {σ : qS} (H : RepR σ 27 0 P) : ∃ σ', f_X8_levels σ = qdo σ' ∧ qsm [31, 32, 33, 34] σ σ' ∧ (∀ t, t < pn P → σ' 31 0 t = pE P t) ∧ (∀ t, t < pn P → σ' 32 0 t = pL P t) ∧ LvR P σ' (pst P (pn P)).1 (pst P (pn P)).2 := by
  have hn := W.1
  obtain ⟨σ1, e1, q1, a1, b1⟩ := r_starts W H
  obtain ⟨σ2, e2, q2, r2⟩ := r_zero_loop 480 0 qFU σ1 (by omega) (by decide) (fun y hy => by omega)
  have H2 := (H.same q1 (by simp)).same q2 (by simp)
  have b2 : ∀ t, t < pn P → σ2 32 0 t = pL P t := fun t ht => by rw [q2 32 0 (by simp)]; exact b1 t ht
  obtain ⟨σ3, e3, q3, L3⟩ := r_lev_loop W (pn P) 0 qFU σ2 (by omega) (by unfold qFU; omega) H2 b2
    ⟨fun t ht hb => absurd (hb.symm.trans (pst0 P t)) (by decide), fun r d hr hd => by
      rw [r2 _ (by omega), pU_none (B := 0) (fun u hu => absurd (hu.symm.trans (pst0 P u)) (by decide)) (Nat.zero_le _)]
      rfl⟩
  refine ⟨σ3, ?_, (q1.mono (by simp)).trans ((q2.mono (by simp)).trans (q3.mono (by simp))), fun t ht => by rw [q3 31 0 (by simp), q2 31 0 (by simp)]; exact a1 t ht, fun t ht => by rw [q3 32 0 (by simp)]; exact b2 t ht, L3⟩
  unfold f_X8_levels
  rw [e1, qb_V]
  exact e2.trans e3
/-- the greatest finish -/
theorem pend_le (W : PW P) : ∀ i, i ≤ pn P → ∀ x, pend P i ≤ x ↔ ∀ u, qbit (pst P i).1 u = true → (pst P i).2 u + pdn P u ≤ x := by
  have hn := W.1
  intro i
  induction i with
  | zero => intro _ x; exact ⟨fun _ u hu => absurd (hu.symm.trans (pst0 P u)) (by decide), fun _ => Nat.zero_le _⟩
  | succ i ih =>
    intro hi x
    obtain ⟨s1, s2, -, -, -, -⟩ := pst_step W (i := i) (by omega)
    have hbit : ∀ u, qbit (pst P (i + 1)).1 u = (qbit (pst P i).1 u || decide (pur P (pst P i).1 = u)) := fun u => qbit_put (by omega)
    have hl : ∀ u, (pst P (i + 1)).2 u = if u = pur P (pst P i).1 then plow P (pst P i).1 (pst P i).2 (pur P (pst P i).1) 200 (ps0 P (pst P i).2 (pur P (pst P i).1)) else (pst P i).2 u := fun u => rfl
    have hnb := (pready_iff.mp s2).1
    rw [pend_s, Nat.max_le, ih (by omega)]
    constructor
    · rintro ⟨h1, h2⟩ u hu
      rw [hbit, Bool.or_eq_true, decide_eq_true_iff] at hu
      rw [hl]
      by_cases e : u = pur P (pst P i).1
      · rw [if_pos e, e]; exact h2
      · rw [if_neg e]
        exact hu.elim (h1 u) (fun h => absurd h.symm e)
    · intro h
      refine ⟨fun u hu => ?_, ?_⟩
      · have := h u (by rw [hbit, hu]; rfl)
        rw [hl, if_neg (fun e => by rw [e, hnb] at hu; cases hu)] at this
        exact this
      · have := h (pur P (pst P i).1) (by rw [hbit]; simp)
        rw [hl, if_pos rfl] at this
        exact this
theorem pst_full (W : PW P) {t : Nat} (ht : t < pn P) : qbit (pst P (pn P)).1 t = true := gcnt_full (pst_spec W (pn P) (Nat.le_refl _)).1 t ht
def pV (P : qP) (t : Nat) : Nat := (pst P (pn P)).2 t
theorem pend_last (W : PW P) (hb : pend P (pn P) ≤ 138) : plast P (fun t => nI (pV P t)) = nI (pend P (pn P)) := by
  have hV : ∀ t, t < pn P → pV P t + pdn P t ≤ pend P (pn P) := fun t ht => (pend_le W (pn P) (Nat.le_refl _) _).mp (Nat.le_refl _) t (pst_full W ht)
  apply i_eq
  rw [nI_toInt (by omega)]
  apply Int.le_antisymm
  · rw [plast_le]
    refine ⟨by omega, fun u hu => ?_⟩
    have := hV u hu
    rw [(W.dn hu).1, nI_add, nI_toInt (by omega)]
    omega
  · have h1 : (plast P (fun t => nI (pV P t))).toInt ≤ (plast P (fun t => nI (pV P t))).toInt := Int.le_refl _
    rw [plast_le] at h1
    have h2 : pend P (pn P) ≤ (plast P (fun t => nI (pV P t))).toInt.toNat := by
      rw [pend_le W (pn P) (Nat.le_refl _)]
      intro u hu
      have hu' := ((pst_spec W (pn P) (Nat.le_refl _)).2 u hu).1
      have h3 := h1.2 u hu'
      have h4 := hV u hu'
      rw [(W.dn hu').1, nI_add, nI_toInt (by omega)] at h3
      have : pV P u = (pst P (pn P)).2 u := rfl
      omega
    omega
end RL
