/-! the baseline: starts, drifts -/
section QB
variable {P : qP} {hs : List qP} {sv : qP} {σ : qS}
def phs (P : qP) (t : Nat) : Bool := !decide (pf P 5 t = -1)
theorem c_hasStart {j : Nat} (W : PW P) (H : Rep σ j P) {t : Nat} (ht : t < pn P) : f_X5_hasStart j (nI t) σ = qan (qb1 (phs P t)) σ := by
  unfold f_X5_hasStart phs
  rw [H.2.2.2]
  by_cases h0 : ph P = 0
  · rw [if_pos h0, W.2.2.2.2.2 h0 t ht]
    rfl
  · rw [if_neg h0, c_base H W ht, qb_I]
    by_cases h1 : pf P 5 t = -1
    · rw [if_pos h1, decide_eq_true h1]; rfl
    · rw [if_neg h1, decide_eq_false h1]; rfl
theorem c_reqB (W : PW P) (H : Rep σ 0 P) {t : Nat} (ht : t < pn P) : f_X7_requireBaselineStart (nI t) σ = if phs P t = true then qdo σ else qth qNSE σ := by
  unfold f_X7_requireBaselineStart
  rw [c_hasStart W H ht, qb_I]
  cases phs P t <;> rfl
theorem r_of0 (H : RepR σ 27 0 P) {x : Int32} (hx : isT P x = false) : ∃ v, f_X8_of x 5 σ = qan v σ := by
  unfold f_X8_of
  rw [r_isT H, hx, qb_I, if_pos (by rfl)]
  unfold f_X8_taskAt
  rw [qb_I, if_pos (by decide)]
  exact ⟨_, rfl⟩
theorem k_baselineStart (a : Int32) (h : Inv σ) : CaseL (f_L_baselineStart a) (f_X8_baselineStart a) σ := by
  obtain ⟨P, hs, sv, I, S⟩ := h
  have W := I.1
  have H := I.2.1
  cases hx : isT P a
  · obtain ⟨v, hv⟩ := r_of0 I.2.2.1 hx
    refine casek (k := 1) (b := 0) (σ1 := σ) (σ2 := qu σ 26 0 17 1) (by decide) (by decide) (by unfold f_L_baselineStart f_X7_baselineStart; rw [c_reqT H, hx, if_neg (by decide)]; rfl) I S ?_ (thr_at _ _) (Qr.thr _ _)
    unfold f_X8_baselineStart
    rw [r_isT I.2.2.1, qb_I, hv, qb_I, hx]
    split
    · rw [show (0 : Int32) = qb1 false from rfl, show (1 : Int32) = qb1 true from rfl, r_holds, qb_I, if_pos (by decide)]; rfl
    · rw [show (0 : Int32) = qb1 false from rfl, show (1 : Int32) = qb1 true from rfl, r_holds, qb_I, if_pos (by decide)]; rfl
  · obtain ⟨t, ht, rfl⟩ := (isT_iff W).mp hx
    cases hb : phs P t
    · have hb2 : pf P 5 t = -1 := by unfold phs at hb; simpa using hb
      refine casek (k := 2) (b := 0) (σ1 := σ) (σ2 := qu σ 26 0 17 2) (by decide) (by decide) (by unfold f_L_baselineStart f_X7_baselineStart; rw [c_reqT H, hx, if_pos rfl, qb_V, c_reqB W H ht, hb, if_neg (by decide)]; rfl) I S ?_ (thr_at _ _) (Qr.thr _ _)
      unfold f_X8_baselineStart
      rw [r_isT I.2.2.1, qb_I, r_base I.2.2.1 W ht, qb_I, hx, if_pos hb2]
      show qbind (f_X8_holds (qb1 true) (qb1 false) (qb1 true) σ) _ _ = _
      rw [r_holds, qb_I, if_pos (by decide)]
      rfl
    · have hb2 : ¬ pf P 5 t = -1 := by unfold phs at hb; simpa using hb
      have R1 := (I.out (pf P 5 t)).2.2.1
      refine case0 (r := pf P 5 t) (σ2 := qu (qu σ 38 0 0 (pf P 5 t)) 26 0 17 0) (by unfold f_L_baselineStart f_X7_baselineStart; rw [c_reqT H, hx, if_pos rfl, qb_V, c_reqB W H ht, hb, if_pos rfl, qb_V, c_base H W ht]; rfl) I S ?_ (thr_at _ _) (Qr.thr _ _)
      unfold f_X8_baselineStart
      rw [r_isT R1, qb_I, r_base R1 W ht, qb_I, hx, if_neg hb2]
      show qbind (f_X8_holds (qb1 true) (qb1 true) (qb1 true) (qu σ 38 0 0 (pf P 5 t))) _ _ = _
      rw [r_holds, qb_I, if_neg (by decide)]
      show qbind (f_X8_of (nI t) 5 (qu (qu σ 38 0 0 (pf P 5 t)) 26 0 17 0)) _ _ = _
      rw [r_base (R1.qt (Qt.thr _ _) (Or.inl rfl)) W ht, qb_I]
def pdr (P : qP) (t : Nat) : Int32 := nI (pV P t) - pf P 5 t
theorem c_drift (I : InvB σ P hs sv) (S : PlanSt P σ) {t : Nat} (ht : t < pn P) : ∃ σ', f_X7_driftOf (nI t) σ = qan (pdr P t) σ' ∧ InvB σ' P hs sv ∧ PlanSt P σ' := by
  have W := I.1
  have hn := W.1
  obtain ⟨σ1, c1, q1, I1, s8, p1⟩ := c_plan I S
  refine ⟨σ1, ?_, I1, Or.inr ⟨s8, p1⟩⟩
  unfold f_X7_driftOf
  rw [c1, qb_P, e_at (show t < 12 by omega) (by decide), qb_I, p1.2.2.2.2.2.1.1 t ht (pst_full W ht), c_base I1.2.1 W ht, qb_I]
  rfl
theorem k_drift (a : Int32) (h : Inv σ) : CaseL (f_L_drift a) (f_X8_drift a) σ := by
  obtain ⟨P, hs, sv, I, S⟩ := h
  have W := I.1
  have H := I.2.1
  have hn := W.1
  cases hx : isT P a
  · obtain ⟨σ2, e2, q2, a2, b2, l2⟩ := r_levels W I.2.2.1
    have R2 := I.2.2.1.same q2 (by simp)
    obtain ⟨v, hv⟩ := r_of0 R2 hx
    refine casek (k := 1) (b := 0) (σ1 := σ) (σ2 := qu σ2 26 0 17 1) (by decide) (by decide) (by unfold f_L_drift f_X7_drift; rw [c_reqT H, hx, if_neg (by decide)]; rfl) I S ?_ (thr_at _ _) ((Qr.of q2 (by simp)).trans (Qr.thr _ _))
    unfold f_X8_drift
    rw [e2, qb_V, r_isT R2, qb_I, hv, qb_I, hx]
    unfold j_X8_drift_25
    split
    · rw [show (0 : Int32) = qb1 false from rfl, show (1 : Int32) = qb1 true from rfl, r_holds, qb_I, if_pos (by decide)]; rfl
    · rw [show (1 : Int32) = qb1 true from rfl, r_holds, qb_I, if_pos (by decide)]; rfl
  · obtain ⟨t, ht, rfl⟩ := (isT_iff W).mp hx
    cases hb : phs P t
    · have hb2 : pf P 5 t = -1 := by unfold phs at hb; simpa using hb
      obtain ⟨σ2, e2, q2, a2, b2, l2⟩ := r_levels W I.2.2.1
      have R2 := I.2.2.1.same q2 (by simp)
      refine casek (k := 2) (b := 0) (σ1 := σ) (σ2 := qu σ2 26 0 17 2) (by decide) (by decide) (by unfold f_L_drift f_X7_drift; rw [c_reqT H, hx, if_pos rfl, qb_V, c_reqB W H ht, hb, if_neg (by decide)]; rfl) I S ?_ (thr_at _ _) ((Qr.of q2 (by simp)).trans (Qr.thr _ _))
      unfold f_X8_drift
      rw [e2, qb_V, r_isT R2, qb_I, r_base R2 W ht, qb_I, hx, if_pos hb2]
      unfold j_X8_drift_25
      show qbind (f_X8_holds (qb1 true) (qb1 false) (qb1 true) σ2) _ _ = _
      rw [r_holds, qb_I, if_pos (by decide)]
      rfl
    · have hb2 : ¬ pf P 5 t = -1 := by unfold phs at hb; simpa using hb
      obtain ⟨σ1, c1, I1, S1⟩ := c_drift I S ht
      have R1 := (I1.out (pdr P t)).2.2.1
      obtain ⟨σ2, e2, q2, a2, b2, l2⟩ := r_levels W R1
      have R2 := R1.same q2 (by simp)
      refine case0 (r := pdr P t) (σ1 := σ1) (σ2 := qu σ2 26 0 17 0) (by unfold f_L_drift f_X7_drift; rw [c_reqT H, hx, if_pos rfl, qb_V, c_reqB W H ht, hb, if_pos rfl, qb_V, c1]; rfl) I1 S1 ?_ (thr_at _ _) ((Qr.of q2 (by simp)).trans (Qr.thr _ _))
      unfold f_X8_drift
      rw [e2, qb_V, r_isT R2, qb_I, r_base R2 W ht, qb_I, hx, if_neg hb2]
      unfold j_X8_drift_25
      show qbind (f_X8_holds (qb1 true) (qb1 true) (qb1 true) σ2) _ _ = _
      rw [r_holds, qb_I, if_neg (by decide)]
      show (if qin (nI t) 12 then qbind (f_X8_of (nI t) 5 (qu σ2 26 0 17 0)) _ _ else none) = _
      rw [if_pos (n_in (by omega) (by decide)), r_base (R2.qt (Qt.thr _ _) (Or.inl rfl)) W ht, qb_I, nI_clamp (by omega)]
      show qan (σ2 33 0 t - pf P 5 t) _ = _
      rw [l2.1 t ht (pst_full W ht)]
      rfl
/-! all drifts -/
theorem c_td_loop : ∀ (d i m : Nat) (a : Int32) (σ : qS), i + d = pn P → d < m → InvB σ P hs sv → PlanSt P σ → ∃ σ', l_X7_totalDrift_24 m a (nI i) σ = qan (fo (fun t a => if phs P t = true then a + qabs (pdr P t) else a) d i a) σ' ∧ InvB σ' P hs sv ∧ PlanSt P σ' := by
  intro d
  induction d with
  | zero =>
    intro i m a σ hi hm I S
    obtain ⟨m, rfl⟩ : ∃ m', m = m' + 1 := ⟨m - 1, by omega⟩
    have hn := I.1.1
    refine ⟨σ, ?_, I, S⟩
    simp only [l_X7_totalDrift_24, b_X7_totalDrift_24]
    rw [if_pos (by rw [I.2.1.1]; exact nI_le (by omega) (by omega))]
    rfl
  | succ d ih =>
    intro i m a σ hi hm I S
    obtain ⟨m, rfl⟩ : ∃ m', m = m' + 1 := ⟨m - 1, by omega⟩
    have W := I.1
    have hn := W.1
    have hf : fo (fun t a => if phs P t = true then a + qabs (pdr P t) else a) (d + 1) i a = fo (fun t a => if phs P t = true then a + qabs (pdr P t) else a) d (i + 1) (if phs P i = true then a + qabs (pdr P i) else a) := rfl
    simp only [l_X7_totalDrift_24, b_X7_totalDrift_24]
    rw [if_neg (by rw [I.2.1.1]; exact nI_ge (by omega) (by omega)), c_hasStart W I.2.1 (by omega), qb_I, nI_1, hf]
    cases hb : phs P i
    · rw [if_pos (by rfl), if_neg (by decide)]
      exact ih (i + 1) m a σ (by omega) (by omega) I S
    · obtain ⟨σ1, c1, I1, S1⟩ := c_drift I S (show i < pn P by omega)
      rw [if_neg (by decide), if_pos rfl, c1, qb_I]
      exact ih (i + 1) m _ σ1 (by omega) (by omega) I1 S1
theorem r_td_loop (W : PW P) (H : RepR σ 27 0 P) (h33 : ∀ t, t < pn P → σ 33 0 t = nI (pV P t)) : ∀ (d i m : Nat) (a : Int32), i + d = pn P → d < m → l_X8_totalDrift_8 m a (nI i) σ = qan (if ph P = 1 then fo (fun t a => if phs P t = true then a + qabs (pdr P t) else a) d i a else 0) (qu σ 26 0 17 (if ph P = 1 then 0 else 1)) := by
  have hn := W.1
  intro d
  induction d with
  | zero =>
    intro i m a hi hm
    obtain ⟨m, rfl⟩ : ∃ m', m = m' + 1 := ⟨m - 1, by omega⟩
    simp only [l_X8_totalDrift_8, b_X8_totalDrift_8]
    rw [if_pos (by rw [H.1]; exact nI_le (by omega) (by omega)), show σ 27 0 1 = ph P from H.2.1]
    by_cases h : ph P = 1
    · rw [if_pos h, if_pos h, if_pos h]
      show qbind (f_X8_goes (qb1 true) σ) _ _ = _
      rw [r_goes, qb_I, if_neg (by decide)]
      rfl
    · rw [if_neg h, if_neg h, if_neg h]
      show qbind (f_X8_goes (qb1 false) σ) _ _ = _
      rw [r_goes, qb_I, if_pos (by decide)]
      rfl
  | succ d ih =>
    intro i m a hi hm
    obtain ⟨m, rfl⟩ : ∃ m', m = m' + 1 := ⟨m - 1, by omega⟩
    have hf : fo (fun t a => if phs P t = true then a + qabs (pdr P t) else a) (d + 1) i a = fo (fun t a => if phs P t = true then a + qabs (pdr P t) else a) d (i + 1) (if phs P i = true then a + qabs (pdr P i) else a) := rfl
    simp only [l_X8_totalDrift_8, b_X8_totalDrift_8]
    rw [if_neg (by rw [H.1]; exact nI_ge (by omega) (by omega)), r_base H W (by omega), qb_I, nI_1, hf]
    by_cases hb : pf P 5 i = -1
    · rw [if_pos hb, Int32.add_zero, show phs P i = false by unfold phs; simp [hb], if_neg (show ¬ false = true by decide)]
      exact ih (i + 1) m a (by omega) (by omega)
    · rw [if_neg hb, show phs P i = true by unfold phs; simp [hb], if_pos rfl, if_pos (n_in (by omega) (by decide)), r_base H W (by omega), qb_I, nI_clamp (by omega), h33 i (by omega)]
      exact ih (i + 1) m _ (by omega) (by omega)
theorem k_totalDrift (h : Inv σ) : CaseL f_L_totalDrift f_X8_totalDrift σ := by
  obtain ⟨P, hs, sv, I, S⟩ := h
  have W := I.1
  have H := I.2.1
  have hn := W.1
  rcases W.2.2.2.2.1 with h0 | h1
  · obtain ⟨σ2, e2, q2, a2, b2, l2⟩ := r_levels W I.2.2.1
    have R2 := I.2.2.1.same q2 (by simp)
    have l3 := r_td_loop W R2 (fun t ht => l2.1 t ht (pst_full W ht)) (pn P) 0 qFU 0 (by omega) (by unfold qFU; omega)
    rw [if_neg (show ¬ ph P = 1 by rw [h0]; decide), if_neg (show ¬ ph P = 1 by rw [h0]; decide)] at l3
    exact casek (k := 1) (b := 0) (by decide) (by decide) (by unfold f_L_totalDrift f_X7_totalDrift; rw [H.2.2.2, if_pos h0]; rfl) I S (by unfold f_X8_totalDrift; rw [e2, qb_V]; exact l3) (thr_at _ _) ((Qr.of q2 (by simp)).trans (Qr.thr _ _))
  · obtain ⟨σ1, c1, I1, S1⟩ := c_td_loop (P := P) (pn P) 0 qFU 0 σ (by omega) (by unfold qFU; omega) I S
    obtain ⟨F, hF⟩ : ∃ F, F = fo (fun t a => if phs P t = true then a + qabs (pdr P t) else a) (pn P) 0 0 := ⟨_, rfl⟩
    rw [← hF] at c1
    have R1 := (I1.out F).2.2.1
    obtain ⟨σ2, e2, q2, a2, b2, l2⟩ := r_levels W R1
    have R2 := R1.same q2 (by simp)
    have l3 := r_td_loop W R2 (fun t ht => l2.1 t ht (pst_full W ht)) (pn P) 0 qFU 0 (by omega) (by unfold qFU; omega)
    rw [if_pos h1, if_pos h1, ← hF] at l3
    exact case0 (r := F) (by unfold f_L_totalDrift f_X7_totalDrift; rw [H.2.2.2, if_neg (by rw [h1]; decide)]; erw [c1]; rfl) I1 S1 (by unfold f_X8_totalDrift; rw [e2, qb_V]; exact l3) (thr_at _ _) ((Qr.of q2 (by simp)).trans (Qr.thr _ _))
end QB
