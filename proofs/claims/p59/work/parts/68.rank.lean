/-! ranks -/
/-- a task comes before another -/
def rb (A B : Nat → Int) (w t : Nat) : Bool := decide (A w < A t ∨ (A w = A t ∧ (B t < B w ∨ (B w = B t ∧ w < t))))
def rkc (A B : Nat → Int) (n t : Nat) : Nat := gcnt (fun w => rb A B w t) n
theorem rkc_lt {A B : Nat → Int} {n t u : Nat} (ht : t < n) (h : rb A B t u = true) : rkc A B n t < rkc A B n u := by
  refine gcnt_lt (fun w hw => ?_) (x := t) ?_ h n ht
  · unfold rb at *
    rw [decide_eq_true_iff] at *
    omega
  · unfold rb
    rw [decide_eq_false_iff_not]
    omega
theorem rkc_inj {A B : Nat → Int} {n t u : Nat} (ht : t < n) (hu : u < n) (h : rkc A B n t = rkc A B n u) : t = u := by
  by_cases h1 : rb A B t u = true
  · have := rkc_lt ht h1
    omega
  · by_cases h2 : rb A B u t = true
    · have := rkc_lt hu h2
      omega
    · unfold rb at *
      rw [decide_eq_true_iff] at *
      omega
theorem rkc_le {A B : Nat → Int} {n t : Nat} : rkc A B n t ≤ n := gcnt_le _ n
/-- the last of a kind -/
def gla (c : Nat → Bool) (N : Nat) : Nat → Nat
  | 0 => N
  | i + 1 => if c i = true then i else gla c N i
theorem gla_spec (c : Nat → Bool) (N : Nat) : ∀ i, (gla c N i = N ∧ ∀ t, t < i → c t = false) ∨ (gla c N i < i ∧ c (gla c N i) = true)
  | 0 => Or.inl ⟨rfl, fun _ h => by omega⟩
  | i + 1 => by
    unfold gla
    by_cases h : c i = true
    · rw [if_pos h]; exact Or.inr ⟨by omega, h⟩
    · rw [if_neg h]
      rcases gla_spec c N i with ⟨h1, h2⟩ | ⟨h1, h2⟩
      · refine Or.inl ⟨h1, fun t ht => ?_⟩
        by_cases e : t = i
        · rw [e]; simpa using h
        · exact h2 t (by omega)
      · exact Or.inr ⟨by omega, h2⟩
theorem gfs_spec (c : Nat → Bool) : ∀ d i, (gfs c d i = i + d ∧ ∀ t, i ≤ t → t < i + d → c t = false) ∨ (i ≤ gfs c d i ∧ gfs c d i < i + d ∧ c (gfs c d i) = true)
  | 0, i => Or.inl ⟨rfl, fun _ _ h => by omega⟩
  | d + 1, i => by
    unfold gfs
    by_cases h : c i = true
    · rw [if_pos h]; exact Or.inr ⟨by omega, by omega, h⟩
    · rw [if_neg h]
      rcases gfs_spec c d (i + 1) with ⟨h1, h2⟩ | ⟨h1, h2, h3⟩
      · refine Or.inl ⟨by omega, fun t h3 h4 => ?_⟩
        by_cases e : t = i
        · rw [e]; simpa using h
        · exact h2 t (by omega) (by omega)
      · exact Or.inr ⟨by omega, by omega, h3⟩
theorem gla_gfs {c : Nat → Bool} {n : Nat} (hc : ∀ t u, t < n → u < n → c t = true → c u = true → t = u) : gla c n n = gfs c n 0 := by
  rcases gla_spec c n n with ⟨h1, h2⟩ | ⟨h1, h2⟩ <;> rcases gfs_spec c n 0 with ⟨k1, k2⟩ | ⟨k0, k1, k2⟩
  · omega
  · rw [h2 _ (by omega)] at k2; cases k2
  · rw [k2 _ (by omega) (by omega)] at h2; cases h2
  · exact hc _ _ h1 (by omega) h2 k2
section QK2
variable {P : qP} {hs : List qP} {sv : qP} {σ : qS} {A B : Nat → Int}
def rkq (P : qP) (A B : Nat → Int) (x : Int32) (t : Nat) : Bool := decide (nI (rkc A B (pn P) t) = x)
theorem rkq_inj (W : PW P) {x : Int32} : ∀ t u, t < pn P → u < pn P → rkq P A B x t = true → rkq P A B x u = true → t = u := by
  have hn := W.1
  intro t u ht hu h1 h2
  unfold rkq at h1 h2
  rw [decide_eq_true_iff] at h1 h2
  rw [← h2, n_eq (by have := @rkc_le A B (pn P) t; omega) (by have := @rkc_le A B (pn P) u; omega)] at h1
  exact rkc_inj ht hu h1
/-- the class: keys -/
def KeyOK (P : qP) (A B : Nat → Int) (σ : qS) : Prop := ∀ t, t < pn P → (σ 25 0 t).toInt = 10 * A t - B t
theorem c_cb_loop (W : PW P) (H : Rep σ 0 P) (K : KeyOK P A B σ) (hB : ∀ t, t < pn P → 0 ≤ B t ∧ B t ≤ 9) {t : Nat} (ht : t < pn P) : ∀ (d i m : Nat), i + d = pn P → d < m → l_X7_countBefore_14 m (nI t) (σ 25 0 t) (nI (gcnt (fun w => rb A B w t) i)) (nI i) σ = qan (nI (rkc A B (pn P) t)) σ := by
  have hn := W.1
  intro d
  induction d with
  | zero =>
    intro i m hi hm
    obtain ⟨m, rfl⟩ : ∃ m', m = m' + 1 := ⟨m - 1, by omega⟩
    have hi : i = pn P := by omega
    subst hi
    simp only [l_X7_countBefore_14, b_X7_countBefore_14]
    rw [if_pos (by rw [H.1]; exact Int32.le_refl _)]
    rfl
  | succ d ih =>
    intro i m hi hm
    obtain ⟨m, rfl⟩ : ∃ m', m = m' + 1 := ⟨m - 1, by omega⟩
    have hg : gcnt (fun w => rb A B w t) (i + 1) = gcnt (fun w => rb A B w t) i + (if rb A B i t = true then 1 else 0) := rfl
    have k1 := K i (by omega)
    have k2 := K t ht
    have b1 := hB i (by omega)
    have b2 := hB t ht
    have ih2 := ih (i + 1) m (by omega) (by omega)
    simp only [l_X7_countBefore_14, b_X7_countBefore_14]
    rw [if_neg (by rw [H.1]; exact nI_ge (by omega) (by omega)), e_at (show i < 12 by omega) (by decide), qb_I, nI_1, nI_1]
    have yes : rb A B i t = true → l_X7_countBefore_14 m (nI t) (σ 25 0 t) (nI (gcnt (fun w => rb A B w t) i + 1)) (nI (i + 1)) σ = qan (nI (rkc A B (pn P) t)) σ := fun h => by
      rw [hg, if_pos h] at ih2
      exact ih2
    have no : rb A B i t = false → l_X7_countBefore_14 m (nI t) (σ 25 0 t) (nI (gcnt (fun w => rb A B w t) i)) (nI (i + 1)) σ = qan (nI (rkc A B (pn P) t)) σ := fun h => by
      rw [hg, h, if_neg (by decide), Nat.add_zero] at ih2
      exact ih2
    by_cases h1 : σ 25 0 i < σ 25 0 t
    · rw [if_pos h1]
      rw [i_lt] at h1
      exact yes (by unfold rb; rw [decide_eq_true_iff]; omega)
    · rw [if_neg h1]
      rw [i_lt] at h1
      by_cases h2 : σ 25 0 i = σ 25 0 t
      · rw [if_pos h2]
        have h3 := congrArg Int32.toInt h2
        by_cases h4 : nI t ≤ nI i
        · rw [if_pos h4]
          rw [n_le (by omega) (by omega)] at h4
          exact no (by unfold rb; rw [decide_eq_false_iff_not]; omega)
        · rw [if_neg h4]
          rw [n_le (by omega) (by omega)] at h4
          exact yes (by unfold rb; rw [decide_eq_true_iff]; omega)
      · rw [if_neg h2]
        have h3 : ¬ (σ 25 0 i).toInt = (σ 25 0 t).toInt := fun e => h2 (i_eq e)
        exact no (by unfold rb; rw [decide_eq_false_iff_not]; omega)
theorem c_rank_loop (W : PW P) (H : Rep σ 0 P) (K : KeyOK P A B σ) (hB : ∀ t, t < pn P → 0 ≤ B t ∧ B t ≤ 9) (x : Int32) : ∀ (d i m : Nat), i + d = pn P → d < m → l_X7_taskAtRank_2 m x (nI i) σ = if gfs (rkq P A B x) d i = pn P then qth qNSE σ else qan (nI (gfs (rkq P A B x) d i)) σ := by
  have hn := W.1
  intro d
  induction d with
  | zero =>
    intro i m hi hm
    obtain ⟨m, rfl⟩ : ∃ m', m = m' + 1 := ⟨m - 1, by omega⟩
    simp only [l_X7_taskAtRank_2, b_X7_taskAtRank_2]
    rw [if_pos (by rw [H.1]; exact nI_le (by omega) (by omega)), show gfs (rkq P A B x) 0 i = i from rfl, if_pos (by omega)]
  | succ d ih =>
    intro i m hi hm
    obtain ⟨m, rfl⟩ : ∃ m', m = m' + 1 := ⟨m - 1, by omega⟩
    have hg : gfs (rkq P A B x) (d + 1) i = if rkq P A B x i = true then i else gfs (rkq P A B x) d (i + 1) := rfl
    simp only [l_X7_taskAtRank_2, b_X7_taskAtRank_2]
    unfold f_X7_countBefore
    rw [if_neg (by rw [H.1]; exact nI_ge (by omega) (by omega)), e_at (show i < 12 by omega) (by decide), qb_I]
    have cb := c_cb_loop W H K hB (show i < pn P by omega) (pn P) 0 qFU (by omega) (by unfold qFU; omega)
    rw [show nI (gcnt (fun w => rb A B w i) 0) = (0 : Int32) from rfl, show nI 0 = (0 : Int32) from rfl] at cb
    rw [cb, qb_I, nI_1]
    by_cases e : nI (rkc A B (pn P) i) = x
    · rw [show rkq P A B x i = true from decide_eq_true e, if_pos rfl] at hg
      rw [if_pos e, hg, if_neg (by omega)]
    · rw [show rkq P A B x i = false from decide_eq_false e, if_neg (show ¬ false = true by decide)] at hg
      rw [if_neg e, hg]
      exact ih (i + 1) m (by omega) (by omega)
theorem c_rank (W : PW P) (H : Rep σ 0 P) (K : KeyOK P A B σ) (hB : ∀ t, t < pn P → 0 ≤ B t ∧ B t ≤ 9) (x : Int32) : f_X7_taskAtRank x σ = if gfs (rkq P A B x) (pn P) 0 = pn P then qth qNSE σ else qan (nI (gfs (rkq P A B x) (pn P) 0)) σ := by
  have hn := W.1
  exact c_rank_loop W H K hB x (pn P) 0 qFU (by omega) (by unfold qFU; omega)
/-- the keys' loops -/
theorem i_key {a b : Int32} (h1 : -1000 ≤ a.toInt) (h2 : a.toInt ≤ 1000) (h3 : -1000 ≤ b.toInt) (h4 : b.toInt ≤ 1000) : ((10 : Int32) * a - b).toInt = 10 * a.toInt - b.toInt := by
  have e1 : ((10 : Int32) * a).toInt = 10 * a.toInt := by
    rw [show (10 : Int32) * a = a * 10 from Int32.mul_comm _ _, i_mul (by omega) (by omega) (by decide) (by decide), show (10 : Int32).toInt = 10 from rfl]
    omega
  rw [i_sub (by omega) (by omega) (by omega) (by omega), e1]
theorem c_bySlack_loop (W : PW P) (x : Int32) : ∀ (d i m : Nat) (σ : qS), i + d = pn P → d < m → Rep σ 0 P → PlanOK P σ → (∀ t, t < i → (σ 25 0 t).toInt = 10 * ((pL P t).toInt - (pE P t).toInt) - (pf P 0 t).toInt) → ∃ σ', qsm [25] σ σ' ∧ l_X7_taskBySlack_7 m x (nI i) σ = qbind (f_X7_taskAtRank x σ') (qvI (fun r1 s2 => (some (.inl (some (qI r1)), s2)))) qE1 ∧ KeyOK P (fun t => (pL P t).toInt - (pE P t).toInt) (fun t => (pf P 0 t).toInt) σ' ∧ Rep σ' 0 P ∧ PlanOK P σ' := by
  have hn := W.1
  intro d
  induction d with
  | zero =>
    intro i m σ hi hm H p1 K
    obtain ⟨m, rfl⟩ : ∃ m', m = m' + 1 := ⟨m - 1, by omega⟩
    refine ⟨σ, qsm.refl _ σ, ?_, fun t ht => K t (by omega), H, p1⟩
    simp only [l_X7_taskBySlack_7, b_X7_taskBySlack_7]
    rw [if_pos (by rw [H.1]; exact nI_le (by omega) (by omega))]
  | succ d ih =>
    intro i m σ hi hm H p1 K
    obtain ⟨m, rfl⟩ : ∃ m', m = m' + 1 := ⟨m - 1, by omega⟩
    have hi2 : i < pn P := by omega
    have l1 := pL_bd W hi2
    have l2 := pE_small W hi2
    have l3 := (W.2.1 i hi2).1
    have e1 : (pL P i - pE P i).toInt = (pL P i).toInt - (pE P i).toInt := i_sub (by omega) (by omega) (by omega) (by omega)
    have e2 := i_key (a := pL P i - pE P i) (b := pf P 0 i) (by omega) (by omega) (by omega) (by omega)
    obtain ⟨σ', q, e, r⟩ := ih (i + 1) m (qu σ 25 0 i ((10 : Int32) * (pL P i - pE P i) - pf P 0 i)) (by omega) (by omega) (H.same (qsm_qu σ 25 0 i _) (by simp)) (p1.same (qsm_qu σ 25 0 i _) (by simp)) (fun t ht => by
      rw [qu_at]
      by_cases h : t = i
      · rw [if_pos ⟨rfl, rfl, h⟩, e2, e1, h]
      · rw [if_neg (fun hh => h hh.2.2)]
        exact K t (by omega))
    refine ⟨σ', (qsm_qu σ 25 0 i _).trans q, ?_, r⟩
    simp only [l_X7_taskBySlack_7, b_X7_taskBySlack_7]
    rw [if_neg (by rw [H.1]; exact nI_ge (by omega) (by omega)), e_slack p1 W hi2, qb_I, c_dur H W hi2, qb_I]
    unfold f_X7_sortingKey
    rw [qb_I, e_put (show i < 12 by omega) (by decide), qb_V, nI_1]
    exact e
theorem c_byStart_loop (W : PW P) (x : Int32) : ∀ (d i m : Nat) (σ : qS), i + d = pn P → d < m → Rep σ 0 P → PlanOK P σ → (∀ t, t < i → (σ 25 0 t).toInt = 10 * (pV P t : Int) - (pf P 2 t).toInt) → ∃ σ', qsm [25] σ σ' ∧ l_X7_taskByStart_7 m x (nI i) σ = qbind (f_X7_taskAtRank x σ') (qvI (fun r1 s2 => (some (.inl (some (qI r1)), s2)))) qE1 ∧ KeyOK P (fun t => (pV P t : Int)) (fun t => (pf P 2 t).toInt) σ' ∧ Rep σ' 0 P ∧ PlanOK P σ' := by
  have hn := W.1
  intro d
  induction d with
  | zero =>
    intro i m σ hi hm H p1 K
    obtain ⟨m, rfl⟩ : ∃ m', m = m' + 1 := ⟨m - 1, by omega⟩
    refine ⟨σ, qsm.refl _ σ, ?_, fun t ht => K t (by omega), H, p1⟩
    simp only [l_X7_taskByStart_7, b_X7_taskByStart_7]
    rw [if_pos (by rw [H.1]; exact nI_le (by omega) (by omega))]
  | succ d ih =>
    intro i m σ hi hm H p1 K
    obtain ⟨m, rfl⟩ : ∃ m', m = m' + 1 := ⟨m - 1, by omega⟩
    have hi2 : i < pn P := by omega
    have l1 := pV_le W hi2
    have l3 := (W.2.1 i hi2).2.2.1
    have e1 : (nI (pV P i)).toInt = (pV P i : Int) := nI_toInt (by omega)
    have e2 := i_key (a := nI (pV P i)) (b := pf P 2 i) (by omega) (by omega) (by omega) (by omega)
    obtain ⟨σ', q, e, r⟩ := ih (i + 1) m (qu σ 25 0 i ((10 : Int32) * nI (pV P i) - pf P 2 i)) (by omega) (by omega) (H.same (qsm_qu σ 25 0 i _) (by simp)) (p1.same (qsm_qu σ 25 0 i _) (by simp)) (fun t ht => by
      rw [qu_at]
      by_cases h : t = i
      · rw [if_pos ⟨rfl, rfl, h⟩, e2, e1, h]
      · rw [if_neg (fun hh => h hh.2.2)]
        exact K t (by omega))
    refine ⟨σ', (qsm_qu σ 25 0 i _).trans q, ?_, r⟩
    simp only [l_X7_taskByStart_7, b_X7_taskByStart_7]
    rw [if_neg (by rw [H.1]; exact nI_ge (by omega) (by omega)), e_at (show i < 12 by omega) (by decide), qb_I, p1.2.2.2.2.2.1.1 i hi2 (pst_full W hi2), c_dem H W hi2, qb_I]
    unfold f_X7_sortingKey
    rw [qb_I, e_put (show i < 12 by omega) (by decide), qb_V, nI_1]
    exact e
end QK2

