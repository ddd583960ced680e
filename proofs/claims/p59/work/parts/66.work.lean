/-! peaks, workloads, baselines -/
section QW
variable {P : qP} {hs : List qP} {sv : qP} {σ : qS}
theorem fo_app {g : Nat → Int32 → Int32} : ∀ (d e i : Nat) (a : Int32), fo g (d + e) i a = fo g e (i + d) (fo g d i a)
  | 0, e, i, a => by rw [Nat.zero_add]; rfl
  | d + 1, e, i, a => by
    rw [show d + 1 + e = (d + e) + 1 by omega, fo, fo_app d e (i + 1), fo, show i + 1 + d = i + (d + 1) by omega]
theorem fo_sum {f : Nat → Nat} {g : Nat → Int32 → Int32} : ∀ (d i : Nat), (∀ t, i ≤ t → t < i + d → ∀ a, g t (nI a) = nI (a + f t)) → fo g d i (nI (gsum f i)) = nI (gsum f (i + d))
  | 0, i, _ => rfl
  | d + 1, i, h => by
    rw [fo, h i (Nat.le_refl _) (by omega), ← gsum_last, fo_sum d (i + 1) (fun t h1 h2 => h t (by omega) (by omega)), show i + 1 + d = i + (d + 1) by omega]
/-- the peak -/
def ppk (P : qP) (r : Nat) : Int32 := fo (fun d a => qmax a (nI (pUf P r d))) 138 0 0
theorem ppk_eq (W : PW P) (r : Nat) : fo (fun d a => qmax a (nI (pUf P r d))) 160 0 0 = ppk P r := by
  have h0 : 0 ≤ (ppk P r).toInt := fo_inv (Q := fun a => 0 ≤ a.toInt) 138 0 0 (by decide) (fun u a _ _ h => by
    show 0 ≤ (qmax a _).toInt
    rw [i_max]
    exact Int.le_trans h (Int.le_max_left _ _))
  rw [show (160 : Nat) = 138 + 22 from rfl, fo_app]
  show fo _ 22 138 (ppk P r) = ppk P r
  exact fo_inv (Q := fun a => a = ppk P r) 22 138 _ rfl (fun u a h1 h2 h => by
    subst h
    rw [pUf_none W h1]
    refine i_eq ?_
    rw [i_max, show (nI 0).toInt = 0 from rfl]
    omega)
theorem c_peak_loop (W : PW P) (p1 : PlanOK P σ) {r : Nat} (hr : r < 3) : ∀ (e i m : Nat) (a : Int32), i + e = 138 → e < m → l_X7_peakUsage_14 m (nI r) a (nI i) σ = qan (fo (fun d a => qmax a (nI (pUf P r d))) e i a) σ := by
  intro e
  induction e with
  | zero =>
    intro i m a hi hm
    obtain ⟨m, rfl⟩ : ∃ m', m = m' + 1 := ⟨m - 1, by omega⟩
    simp only [l_X7_peakUsage_14, b_X7_peakUsage_14, fo]
    rw [if_pos (by rw [show (138 : Int32) = nI 138 from rfl]; exact nI_le (by omega) (by omega))]
  | succ e ih =>
    intro i m a hi hm
    obtain ⟨m, rfl⟩ : ∃ m', m = m' + 1 := ⟨m - 1, by omega⟩
    simp only [l_X7_peakUsage_14, b_X7_peakUsage_14, fo]
    rw [if_neg (by rw [show (138 : Int32) = nI 138 from rfl]; exact nI_ge (by omega) (by omega)), c_usedOn W p1 hr (by omega), qb_I, nI_1]
    exact ih (i + 1) m _ (by omega) (by omega)
/-! the work of all days -/
theorem gsum_add (f g : Nat → Nat) : ∀ k, gsum (fun i => f i + g i) k = gsum f k + gsum g k
  | 0 => rfl
  | k + 1 => by rw [gsum_last, gsum_last, gsum_last, gsum_add f g k]; omega
theorem gsum_swap (f : Nat → Nat → Nat) (n : Nat) : ∀ D, gsum (fun d => gsum (f d) n) D = gsum (fun t => gsum (fun d => f d t) D) n
  | 0 => (gsum_zero n (fun _ _ => rfl)).symm
  | D + 1 => by
    rw [gsum_last, gsum_swap f n D, ← gsum_add]
    rfl
theorem gsum_run (s k m : Nat) : ∀ D, gsum (fun d => if s ≤ d ∧ d < s + k then m else 0) D = m * (min D (s + k) - s)
  | 0 => by
    rw [show min 0 (s + k) - s = 0 by omega]
    rfl
  | D + 1 => by
    rw [gsum_last, gsum_run s k m D]
    by_cases h : s ≤ D ∧ D < s + k
    · rw [if_pos h, show min (D + 1) (s + k) - s = (min D (s + k) - s) + 1 by omega, Nat.mul_succ]
    · rw [if_neg h, show min (D + 1) (s + k) - s = min D (s + k) - s by omega, Nat.add_zero]
def pwk (P : qP) (r : Nat) : Nat := gsum (fun t => if prn P t = r then pdn P t * pmn P t else 0) (pn P)
theorem pdays (W : PW P) (r : Nat) : gsum (pUf P r) 138 = pwk P r := by
  rw [gsum_congr 138 (fun d _ => pUf_eq W r d), gsum_swap]
  refine gsum_congr _ (fun t ht => ?_)
  have hv := pV_le W ht
  by_cases h : prn P t = r
  · rw [if_pos h, ← gsum_congr 138 (f := fun d => if pV P t ≤ d ∧ d < pV P t + pdn P t then pmn P t else 0) (fun d _ => by
      unfold pwd
      simp [h]), gsum_run, show min 138 (pV P t + pdn P t) - pV P t = pdn P t by omega, Nat.mul_comm]
  · rw [if_neg h]
    exact gsum_zero _ (fun d _ => if_neg (fun hh => h hh.1))
theorem pwork_n (W : PW P) {r : Nat} (hr : r < 3) : pwork P (nI r) = nI (pwk P r) := by
  unfold pwork pwk
  have := fo_sum (f := fun t => if prn P t = r then pdn P t * pmn P t else 0) (g := fun t a => if pf P 1 t = nI r then a + pf P 0 t * pf P 2 t else a) (pn P) 0 (fun t _ ht a => by
    have ht : t < pn P := by omega
    by_cases h : prn P t = r
    · rw [if_pos (by rw [(W.rn ht).1, h]), if_pos h, (W.dn ht).1, (W.mn ht).1, n_mul, nI_add]
    · rw [if_neg (fun e => h (by rw [(W.rn ht).1] at e; exact (n_eq (by have := (W.rn ht).2; omega) (by omega)).mp e)), if_neg h, Nat.add_zero])
  rw [Nat.zero_add] at this
  exact this
theorem pwk_le (W : PW P) (r : Nat) : pwk P r ≤ 540 := by
  have hn := W.1
  have := gsum_le (f := fun t => if prn P t = r then (if t < pn P then pdn P t * pmn P t else 0) else 0) (b := 45) (pn P) (fun t ht => by
    have h1 := (W.dn ht).2.2
    have h2 := (W.mn ht).2.2
    split
    · exact Nat.le_trans (Nat.mul_le_mul h1 h2) (by decide)
    · omega)
  have e : pwk P r = gsum (fun t => if prn P t = r then (if t < pn P then pdn P t * pmn P t else 0) else 0) (pn P) := gsum_congr _ (fun t ht => by simp [ht])
  omega
theorem c_days_loop (W : PW P) (p1 : PlanOK P σ) {r : Nat} (hr : r < 3) : ∀ (e i m : Nat), i + e = 138 → e < m → l_X4_workOnAllDays_4 m (nI r) (nI (gsum (pUf P r) i)) (nI i) σ = qan (nI (gsum (pUf P r) 138)) σ := by
  intro e
  induction e with
  | zero =>
    intro i m hi hm
    obtain ⟨m, rfl⟩ : ∃ m', m = m' + 1 := ⟨m - 1, by omega⟩
    have hi : i = 138 := by omega
    subst hi
    simp only [l_X4_workOnAllDays_4, b_X4_workOnAllDays_4]
    rw [if_pos (by rw [show (138 : Int32) = nI 138 from rfl]; exact Int32.le_refl _)]
  | succ e ih =>
    intro i m hi hm
    obtain ⟨m, rfl⟩ : ∃ m', m = m' + 1 := ⟨m - 1, by omega⟩
    simp only [l_X4_workOnAllDays_4, b_X4_workOnAllDays_4]
    rw [if_neg (by rw [show (138 : Int32) = nI 138 from rfl]; exact nI_ge (by omega) (by omega)), c_usedOn W p1 hr (by omega), qb_I, nI_1, nI_add, ← gsum_last]
    exact ih (i + 1) m (by omega) (by omega)
theorem c_days (W : PW P) (p1 : PlanOK P σ) {r : Nat} (hr : r < 3) : f_X4_workOnAllDays (nI r) σ = qan (pwork P (nI r)) σ := by
  have := c_days_loop W p1 hr 138 0 qFU (by omega) (by unfold qFU; omega)
  rw [pdays W, ← pwork_n W hr] at this
  exact this
/-! consistent -/
theorem pV_soon (W : PW P) : ∀ i, i ≤ pn P → ∀ u, qbit (pst P i).1 u = true → (psoon P (fun v => nI ((pst P i).2 v)) u).toInt ≤ ((pst P i).2 u : Int) := by
  have hn := W.1
  intro i
  induction i with
  | zero =>
    intro _ u hu
    rw [pst0] at hu
    cases hu
  | succ i ih =>
    intro hi u hu
    obtain ⟨u1, u2, u3, u4, u5, u6⟩ := pst_step W (show i < pn P by omega)
    obtain ⟨r1, r2⟩ := pready_iff.mp u2
    have hs := (pst_spec W i (by omega)).2
    have hbit : ∀ u, qbit (pst P (i + 1)).1 u = (qbit (pst P i).1 u || decide (pur P (pst P i).1 = u)) := fun u => qbit_put (by omega)
    have hl : ∀ u, (pst P (i + 1)).2 u = if u = pur P (pst P i).1 then plow P (pst P i).1 (pst P i).2 (pur P (pst P i).1) 200 (ps0 P (pst P i).2 (pur P (pst P i).1)) else (pst P i).2 u := fun u => rfl
    have hne : ∀ v, qbit (pst P i).1 v = true → (pst P (i + 1)).2 v = (pst P i).2 v := fun v hv => by
      rw [hl, if_neg (fun e => by rw [e, r1] at hv; cases hv)]
    rw [hbit, Bool.or_eq_true, decide_eq_true_iff] at hu
    by_cases e : u = pur P (pst P i).1
    · subst e
      rw [psoon_congr (f' := fun v => nI ((pst P i).2 v)) (fun v hv ev => by rw [hne v (r2 v (by have := W.ed_lt u1 ev; omega) ev)]), u3, hl, if_pos rfl]
      have h9 : ps0 P (pst P i).2 (pur P (pst P i).1) ≤ 138 := by omega
      rw [nI_toInt (by omega)]
      omega
    · rcases hu with hu | hu
      · rw [psoon_congr (f' := fun v => nI ((pst P i).2 v)) (fun v hv ev => by rw [hne v ((hs u hu).2.2 v ev)]), hne u hu]
        exact ih (by omega) u hu
      · exact absurd hu.symm e
theorem pE_pV (W : PW P) {t : Nat} (ht : t < pn P) : (pE P t).toInt ≤ (pV P t : Int) := by
  obtain ⟨h, hh⟩ := W.2.2.2.1
  have key : ∀ k t, t < pn P → h t < k → (pE P t).toInt ≤ (pV P t : Int) := by
    intro k
    induction k with
    | zero => intro t _ hk; omega
    | succ k ih =>
      intro t ht hk
      have h1 := pV_soon W (pn P) (Nat.le_refl _) t (pst_full W ht)
      rw [psoon_le] at h1
      rw [pE_is W t ht, psoon_le]
      refine ⟨h1.1, fun u hu e => ?_⟩
      have h2 := h1.2 u hu e
      have h3 := ih u hu (by have := hh t u ht e; omega)
      have hd := (W.2.1 u hu).1
      have hb := pV_le W hu
      have he := pE_small W hu
      have e1 : (pE P u + pf P 0 u).toInt = (pE P u).toInt + (pf P 0 u).toInt := i_add (by omega) (by omega) (by omega) (by omega)
      have hv : (nI (pV P u)).toInt = (pV P u : Int) := nI_toInt (by omega)
      have e2 : (nI (pV P u) + pf P 0 u).toInt = (nI (pV P u)).toInt + (pf P 0 u).toInt := i_add (by omega) (by omega) (by omega) (by omega)
      unfold pV at *
      rw [e2, hv] at h2
      rw [e1]
      omega
  exact key (h t + 1) t ht (Nat.lt_succ_self _)
theorem c_sa_loop (W : PW P) (H : Rep σ 0 P) (p1 : PlanOK P σ) : ∀ (d i m : Nat), i + d = pn P → d < m → l_X7_startsAgree_7 m (nI i) σ = qan 1 σ := by
  have hn := W.1
  intro d
  induction d with
  | zero =>
    intro i m hi hm
    obtain ⟨m, rfl⟩ : ∃ m', m = m' + 1 := ⟨m - 1, by omega⟩
    simp only [l_X7_startsAgree_7, b_X7_startsAgree_7]
    rw [if_pos (by rw [H.1]; exact nI_le (by omega) (by omega))]
  | succ d ih =>
    intro i m hi hm
    obtain ⟨m, rfl⟩ : ∃ m', m = m' + 1 := ⟨m - 1, by omega⟩
    have hi2 : i < pn P := by omega
    have hv := pV_le W hi2
    have h1 := pE_pV W hi2
    simp only [l_X7_startsAgree_7, b_X7_startsAgree_7]
    rw [if_neg (by rw [H.1]; exact nI_ge (by omega) (by omega)), e_at (show i < 12 by omega) (by decide), qb_I, e_at (show i < 12 by omega) (by decide), qb_I, p1.2.2.1 i hi2, p1.2.2.2.1 i hi2, if_pos rfl, e_at (show i < 12 by omega) (by decide), qb_I, p1.2.2.2.2.2.1.1 i hi2 (pst_full W hi2), nI_1]
    rw [if_pos (by rw [i_le, nI_toInt (by unfold pV at *; omega)]; exact h1)]
    exact ih (i + 1) m (by omega) (by omega)
theorem c_da_in (W : PW P) (H : Rep σ 0 P) {rk : Int32 → qS → Option qO} {t : Nat} (ht : t < pn P) {x : Int32} (hx : ∀ u, qbit x u = prea P t u) : ∀ (d i m : Nat), i + d = pn P → d < m → l_X7_dependenciesAgree_30 rk m (nI t) x (nI i) σ = rk (nI (t + 1)) σ := by
  have hn := W.1
  intro d
  induction d with
  | zero =>
    intro i m hi hm
    obtain ⟨m, rfl⟩ : ∃ m', m = m' + 1 := ⟨m - 1, by omega⟩
    simp only [l_X7_dependenciesAgree_30, b_X7_dependenciesAgree_30]
    rw [if_pos (by rw [H.1]; exact nI_le (by omega) (by omega)), nI_1]
  | succ d ih =>
    intro i m hi hm
    obtain ⟨m, rfl⟩ : ∃ m', m = m' + 1 := ⟨m - 1, by omega⟩
    simp only [l_X7_dependenciesAgree_30, b_X7_dependenciesAgree_30]
    rw [if_neg (by rw [H.1]; exact nI_ge (by omega) (by omega)), e_hasBit (by omega), qb_I, c_reaches H W ht (by omega), qb_I, hx i, if_pos rfl, nI_1]
    exact ih (i + 1) m (by omega) (by omega)
theorem c_da_out (W : PW P) (H : Rep σ 0 P) (p1 : PlanOK P σ) : ∀ (d i m : Nat), i + d = pn P → d < m → l_X7_dependenciesAgree_7 m (nI i) σ = qan 1 σ := by
  have hn := W.1
  intro d
  induction d with
  | zero =>
    intro i m hi hm
    obtain ⟨m, rfl⟩ : ∃ m', m = m' + 1 := ⟨m - 1, by omega⟩
    simp only [l_X7_dependenciesAgree_7, b_X7_dependenciesAgree_7]
    rw [if_pos (by rw [H.1]; exact nI_le (by omega) (by omega))]
  | succ d ih =>
    intro i m hi hm
    obtain ⟨m, rfl⟩ : ∃ m', m = m' + 1 := ⟨m - 1, by omega⟩
    simp only [l_X7_dependenciesAgree_7, b_X7_dependenciesAgree_7]
    rw [if_neg (by rw [H.1]; exact nI_ge (by omega) (by omega)), e_at (show i < 12 by omega) (by decide), qb_I]
    erw [c_da_in W H (show i < pn P by omega) (p1.2.1 i (by omega)) (pn P) 0 qFU (by omega) (by unfold qFU; omega)]
    exact ih (i + 1) m (by omega) (by omega)
theorem c_wa_loop (W : PW P) (H : Rep σ 0 P) (p1 : PlanOK P σ) : ∀ (d i m : Nat), i + d = 3 → d < m → l_X7_workloadsAgree_7 m (nI i) σ = qan 1 σ := by
  intro d
  induction d with
  | zero =>
    intro i m hi hm
    obtain ⟨m, rfl⟩ : ∃ m', m = m' + 1 := ⟨m - 1, by omega⟩
    simp only [l_X7_workloadsAgree_7, b_X7_workloadsAgree_7]
    rw [if_pos (by rw [show (3 : Int32) = nI 3 from rfl]; exact nI_le (by omega) (by omega))]
  | succ d ih =>
    intro i m hi hm
    obtain ⟨m, rfl⟩ : ∃ m', m = m' + 1 := ⟨m - 1, by omega⟩
    simp only [l_X7_workloadsAgree_7, b_X7_workloadsAgree_7]
    rw [if_neg (by rw [show (3 : Int32) = nI 3 from rfl]; exact nI_ge (by omega) (by omega)), c_work W H, qb_I, c_days W p1 (by omega), qb_I, if_pos rfl, nI_1]
    exact ih (i + 1) m (by omega) (by omega)
end QW

